/-! .. when the class throws -/
theorem tab_e : tableOf [(0, 9, 12, 13), (0, 9, 16, 15)] = [⟨0, 9, 12, 13⟩, ⟨0, 9, 16, 15⟩] := rfl
set_option maxHeartbeats 4000000 in
set_option maxRecDepth 100000 in
theorem cx_L_element (l : Launch) (D : va_G) (cA : Nat → ClassId) (ad : Nat → Nat) (hij : Ij ad SC) (cO : ClassId) (o : Nat) (ho : ¬ Aw ad SC o) (σ : St) (a1 a2 : Int32) (v : Int64) (E : String) (k : Int32) (hE : (E = "java/lang/IllegalArgumentException" ∧ k = 1) ∨ (E = "java/lang/IllegalStateException" ∧ k = 2)) (hM : vx_Met l yX5_element wsX5_element rmE (PX D cA ad SC [.ref (ad 0), .int a1, .int a2] σ) (va_Ql (fun (_ : Int64) (_ : Unit) => False) (fun _ _ => False) (Aw ad SC)) (XE E D cA ad SC σ) 1 6 (Aw ad SC)) : Met l yL_element wsL_element rmL (PL D cA ad cO o a1 a2 σ v) (QL D cA ad cO o σ k v) 1 6 (AL ad o) := by
  refine va_MetW (cc := cL_element) (maxL := 5) (ret := some .int) (hh := [(0, 9, 12, 13), (0, 9, 16, 15)]) pn_L rfl ?_
  intro p e s m args below meth c s₁ B hml hv
  obtain ⟨rfl, hP, hO, hK, hKO, hX, hN⟩ := hv
  have hts := atoms_spec (ws := wsL_element) B.pre
  have hown : s.vm.findClass RL = some m.cls := findClass_of_methodNamed B.named
  have htab : c.exceptionTable.toList = [⟨0, 9, 12, 13⟩, ⟨0, 9, 16, 15⟩] := (vx_table (x := yL_element) B (hts _ List.mem_cons_self)).trans tab_e
  have hl := lv_entry [.ref (ad 0), .int a1, .int a2, .ref o] (n := 5) (Nat.le_of_ble_eq_true rfl)
  rw [lg_entry_eq]
  generalize (lg_sl ([.ref (ad 0), .int a1, .int a2, .ref o]) ++ List.replicate (5 - (lg_sl ([.ref (ad 0), .int a1, .int a2, .ref o])).length) Slot.unset).toArray = ls at hl ⊢
  have hl : lv_has ls 5 [(0, .ref (ad 0)), (1, .int a1), (2, .int a2), (3, .ref o)] := hl
  have hx := B.exec
  have hb := B.bytes
  have hr := B.returns
  have hlk := B.notSynchronized
  have hW : Rn D cA ad SC s.heap σ s.heap [] := ⟨hP, va_S.rf⟩
  obtain ⟨f, hof, hf0⟩ := hO
  have hol : o < s.heap.size := (Array.getElem?_eq_some_iff.mp hof).1
  refine lv_aload_n hx hb dL_element_0 rfl (lv_at hl 3 rfl) ?_
  refine lv_iconst (v := 0) hx hb dL_element_1 (by decide) ?_
  refine lv_aload_n hx hb dL_element_2 rfl (lv_at hl 0 rfl) ?_
  refine lv_iload_n hx hb dL_element_3 rfl (lv_at hl 1 rfl) ?_
  refine lv_iload_n hx hb dL_element_4 rfl (lv_at hl 2 rfl) ?_
  refine vx_calll (A0 := AL ad o) (H0 := s.heap) (vx_runV (As := [.int a1, .int a2]) (rest := [.int 0, .ref o]) ⟨hx, hb, hml, hown, hts⟩ hM (cwV 2 hts gL_element_X5_element rfl rfl rfl hd_X5_element ⟨Nat.le_of_ble_eq_true rfl, Nat.le_of_ble_eq_true rfl⟩) ⟨PX.blind, va_recv hK.1 hW.1 (ci := 5) rfl (wd_obj kC_0 iC_0 rfl), PX.at hW hK hX⟩ rfl rfl hl.1 rfl (lv_room (Nat.le_of_ble_eq_true rfl)) dL_element_5 ⟨Nat.le_of_ble_eq_true rfl, Nat.le_of_ble_eq_true rfl⟩) va_S.rf (fun q _ h => Or.inl h) (fun q h => Or.inl h) (fun q _ h => Or.inl h) (fun E9 ce q9 u t H1 locs1 ht hvm _ hBX hz hk hS1 hce hcv hcl => ?_) (fun r u t H1 locs1 ht hvm hF => hF.elim)
  obtain ⟨rfl, hWt⟩ := hBX
  rw [ht] at hWt
  have hoH : H1[o]? = some (vp_cell cO (1, .inr (.inl f))) := by rw [hk o hol ho]; exact hof
  rcases hE with ⟨rfl, rfl⟩ | ⟨rfl, rfl⟩
  · refine vx_catch hown [] ⟨0, 9, 12, 13⟩ [⟨0, 9, 16, 15⟩] htab (fun z hz => nomatch hz) (by decide) (by decide) (hts (Cond.classLink RL 13 "java/lang/IllegalArgumentException") (List.mem_of_getElem? (i := 1) rfl)) (hX.1.args _ ca_iae) hce hcv hcl ?_
    refine lv_astore (lv' := [(4, .ref q9), (0, .ref (ad 0)), (1, .int a1), (2, .int a2), (3, .ref o)]) hx hb dL_element_12 hl (by decide) rfl (fun ls hl => ?_)
    refine lv_iconst (v := 1) hx hb dL_element_14 (by decide) ?_
    exact W.zret (v := 1) hx hb hr rfl (fun t ht hWm => ⟨⟨1, (), rfl, rfl, by rw [ht]; exact hWt, by rw [ht]; exact ⟨f, hoH, hf0⟩⟩, hS1.F ht⟩) hS1.2.2 dL_element_15 hlk
  · refine vx_catch hown [⟨0, 9, 12, 13⟩] ⟨0, 9, 16, 15⟩ [] htab (fun z hz => Or.inr ?_) (by decide) (by decide) (hts (Cond.classLink RL 15 "java/lang/IllegalStateException") (List.mem_of_getElem? (i := 2) rfl)) (hX.1.args _ ca_ise) hce hcv hcl ?_
    · rcases List.mem_cons.mp hz with rfl | h
      · exact ⟨by decide, "java/lang/IllegalArgumentException", hts (Cond.classLink RL 13 "java/lang/IllegalArgumentException") (List.mem_of_getElem? (i := 1) rfl), hN⟩
      · exact nomatch h
    refine lv_astore (lv' := [(4, .ref q9), (0, .ref (ad 0)), (1, .int a1), (2, .int a2), (3, .ref o)]) hx hb dL_element_16 hl (by decide) rfl (fun ls hl => ?_)
    refine lv_iconst (v := 2) hx hb dL_element_18 (by decide) ?_
    exact W.zret (v := 2) hx hb hr rfl (fun t ht hWm => ⟨⟨2, (), rfl, rfl, by rw [ht]; exact hWt, by rw [ht]; exact ⟨f, hoH, hf0⟩⟩, hS1.F ht⟩) hS1.2.2 dL_element_19 hlk
/-- element on both sides: the law's answer k, the model's 'thrown' k -/
theorem sim_element {σc σm : St} (h : RR σc σm) (l : Launch) (hl9 : l.stackTraces = false) (D : va_G) (cA : Nat → ClassId) (ad : Nat → Nat) (hij : Ij ad SC) (cO : ClassId) (o : Nat) (ho : ¬ Aw ad SC o) (x y : Int32) (v : Int64) : ∃ (k : Int32) (v' b : Int64) (σm' : St), Met l yL_element wsL_element rmL (PL D cA ad cO o x y σc v) (QL D cA ad cO o σc k v') 1 6 (AL ad o) ∧ f_X6_element σm x y = some (b, σm') ∧ σm'.1 0 5 = k ∧ (k = 0 → v' = b) ∧ RR σc σm' := by
  have m6 : kOK SM 0 6 = true := by decide +kernel
  rcases inb_or x (show 8 < 2 ^ 31 by omega) with ⟨d, hd, rfl⟩ | hn
  · rcases rowRef hd (h.shelf hd) with ⟨r, hr, e1, e2⟩ | ⟨e1, e2, w1, w2, s, z, hz⟩
    · have hno : f_X4_holdsRow σc (126 + 2 * d) = some 0 := by
        obtain ⟨w, hw, h1, h2, h3, h4⟩ := h.shelf hd
        have hw2 : w ≠ 2 := by
          intro e
          subst e
          rw [f_X6_wrongRow, bnd_o (inM_y hd (by omega)), if_neg p0, chk_t (inb_nI hd (by omega)), nI_clamp (by omega), h2] at e2
          rcases hr with rfl | rfl <;> exact absurd e2 (by decide)
        exact holds2_c hd hw h1 0 (by rw [if_neg hw2])
      have hcl : (nI d).toNatClampNeg = d := nI_clamp (by omega)
      refine ⟨2, v, 0, uI σm 0 5 2, cx_L_element l D cA ad hij cO o ho σc (nI d) y v _ 2 (Or.inr ⟨rfl, rfl⟩) (x2_X5_element l hl9 D cA ad hij σc (nI d) y (noShelf_y hd) (inb_nI hd (by omega)) (by rw [hcl]; exact (sh_ok d hd).1) (Or.inl (by rw [hcl]; exact hno))), ?_, uI_i, fun q => absurd q (by decide), h.keep Fr.rf (MK.u0 (by omega))⟩
      have hr1 : ¬ r = -1 := by rcases hr with rfl | rfl <;> decide
      have hr2 : r < 0 := by rcases hr with rfl | rfl <;> decide
      rw [f_X6_element, bnd_o e2, if_neg hr1, if_pos hr2, f_X6_element_38, f_X6_element_43, chk_t m6, nw_s, uI_i, if_neg (by decide)]
    · obtain ⟨q1, q2, q3, q4, q5, q6, q7⟩ := id hz
      have hcl : (nI d).toNatClampNeg = d := nI_clamp (by omega)
      have hrow : f_X4_holdsRow σc (126 + 2 * d) = some 1 := holds2_c hd (w := 2) (by omega) w1 1 rfl
      rcases inb_or y (show z < 2 ^ 31 by omega) with ⟨i, hi, rfl⟩ | hn
      · refine ⟨0, (σc.1 (126 + 2 * d + 1) i).toInt64, (σc.1 (126 + 2 * d + 1) i).toInt64, uI σm 0 5 0, c0_L_element l D cA ad hij cO o ho σc (nI d) (nI i) v _ ?_, ?_, uI_i, fun _ => rfl, h.keep Fr.rf (MK.u0 (by omega))⟩
        · rw [f_X5_element, bnd_o (noShelf_y hd), if_pos rfl, chk_t (inb_nI hd (by omega)), hcl, chk_t (sh_ok d hd).1, bnd_o hrow, if_neg p0, bnd_o (hasElC hd q2 q4), if_pos (inb_nI hi (by omega)), if_neg p0, chk_t (sh_ok d hd).2, chk_t (inb_nI (by omega) (by omega)), nI_clamp (by omega)]
        · rw [f_X6_element, bnd_o e2, if_neg (by decide), if_neg (by decide), chk_t (inb_nI hd (by omega)), hcl, q6, bnd_o (inCnt (by omega)), if_pos (inb_nI hi (by omega)), if_neg p0, f_X6_element_43, chk_t m6, nw_s, uI_i, if_pos (by decide), n100, chk_t (inb_nI (by omega) (by omega)), nI_clamp (by omega)]
          show some (σm.2 21 (100 * d + i), _) = _
          rw [(q7 i (by omega)).1]
      · have hnel : f_X4_hasElement σc (126 + 2 * d) y = some 0 := by rw [hasElC hd q2 q4, if_neg hn]
        refine ⟨2, v, 0, uI σm 0 5 2, cx_L_element l D cA ad hij cO o ho σc (nI d) y v _ 2 (Or.inr ⟨rfl, rfl⟩) (x2_X5_element l hl9 D cA ad hij σc (nI d) y (noShelf_y hd) (inb_nI hd (by omega)) (by rw [hcl]; exact (sh_ok d hd).1) (Or.inr ⟨by rw [hcl]; exact hrow, by rw [hcl]; exact hnel⟩)), ?_, uI_i, fun q => absurd q (by decide), h.keep Fr.rf (MK.u0 (by omega))⟩
        rw [f_X6_element, bnd_o e2, if_neg (by decide), if_neg (by decide), chk_t (inb_nI hd (by omega)), hcl, q6, bnd_o (inCnt (by omega)), if_neg hn, if_pos rfl, f_X6_element_38, f_X6_element_43, chk_t m6, nw_s, uI_i, if_neg (by decide)]
  · refine ⟨1, v, 0, uI σm 0 5 1, cx_L_element l D cA ad hij cO o ho σc x y v _ 1 (Or.inl ⟨rfl, rfl⟩) (x1_X5_element l hl9 D cA ad hij σc x y (noShelf_n hn)), ?_, uI_i, fun q => absurd q (by decide), h.keep Fr.rf (MK.u0 (by omega))⟩
    rw [f_X6_element, bnd_o (rowRef_n (σc := σc) hn).2, if_pos rfl, f_X6_element_43, chk_t m6, nw_s, uI_i, if_neg (by decide)]
