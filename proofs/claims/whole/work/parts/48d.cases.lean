/-! THE LAW, case by case -/
set_option maxHeartbeats 4000000 in
set_option maxRecDepth 100000 in
/-- bring -/
theorem law_15 {p : Program} {l : Launch} {e : Env} {s : State} {m : MethodId} {below : List Frame} {meth : Method} {c : Code} {b L : Nat} {xs : Nat → Int32} {H : Heap} {locs : List Loc} {cells slots : Nat} {Q : State → Prop} {ls : Array Slot} {D : va_G} {cC cM : Nat → ClassId} {cO : ClassId} {aC aM : Nat → Nat} {o i : Nat} {σc σm : St} (C0 : lw_At p s m meth c b L xs) (X : LX D cC cM cO aC aM o s) (hR : RR σc σm) (hW : LW D cC cM cO aC aM o σc σm H) (hS : va_S (fun q : Nat => s.heap.size ≤ q) s.heap H locs) (hL : L ≤ 3072) (hi : i + 6 ≤ L) (hl : lv_has ls 8 (lv5 aC aM o b i)) (hcs : cells + 1 ≤ 601024 ∧ slots + 6 ≤ 7293034) (next : NX p l e s m below meth c b Q D cC cM cO aC aM o i cells slots) : W p l e room_1 s m #[Value.ref b] below meth c H locs cells slots Q (F0 m 778 ls []) := by
  obtain ⟨hx, hb, hr, hml, hown, hts, hX, hbl, hlocks, hgv⟩ := id C0
  have hcs0 : cells ≤ 601024 ∧ slots ≤ 7293034 := ⟨by omega, by omega⟩
  have j1 : Ij aC SC := X.2.2.1
  have j2 : Ij aM SM := X.2.2.2.1
  obtain ⟨r, σc', σm', e1, e2, hR2⟩ := sim_bring hR (xs (i + 1)) (xs (i + 2)) (xs (i + 3)) (xs (i + 4)) (xs (i + 5))
  refine lv_aload_n hx hb dL_law_778 rfl (lv_at hl 1 rfl) ?_
  refine l_arg C0 hS hL hi hl 1 (by omega) rfl dL_law_779 dL_law_780 dL_law_782 dL_law_783 dL_law_784 ?_
  refine l_arg C0 hS hL hi hl 2 (by omega) rfl dL_law_785 dL_law_786 dL_law_788 dL_law_789 dL_law_790 ?_
  refine l_arg C0 hS hL hi hl 3 (by omega) rfl dL_law_791 dL_law_792 dL_law_794 dL_law_795 dL_law_796 ?_
  refine l_arg C0 hS hL hi hl 4 (by omega) rfl dL_law_797 dL_law_798 dL_law_800 dL_law_801 dL_law_802 ?_
  refine l_arg C0 hS hL hi hl 5 (by omega) rfl dL_law_803 dL_law_804 dL_law_806 dL_law_807 dL_law_808 ?_
  refine l_Ci (As := [.int (xs (i + 1)), .int (xs (i + 2)), .int (xs (i + 3)), .int (xs (i + 4)), .int (xs (i + 5))]) C0 X hW hS (c_X5_bring l D cC aC j1 σc (xs (i + 1)) (xs (i + 2)) (xs (i + 3)) (xs (i + 4)) (xs (i + 5)) _ e1) gL_law_X5_bring rfl ⟨rfl, rfl⟩ hd_X5_bring ⟨Nat.le_of_ble_eq_true rfl, Nat.le_of_ble_eq_true rfl⟩ hcs0 rfl (Nat.le_of_ble_eq_true rfl) hl.1 dL_law_809 (fun H locs hW hS => ?_)
  refine lv_aload_n hx hb dL_law_812 rfl (lv_at hl 2 rfl) ?_
  refine l_arg C0 hS hL hi hl 1 (by omega) rfl dL_law_813 dL_law_814 dL_law_816 dL_law_817 dL_law_818 ?_
  refine l_arg C0 hS hL hi hl 2 (by omega) rfl dL_law_819 dL_law_820 dL_law_822 dL_law_823 dL_law_824 ?_
  refine l_arg C0 hS hL hi hl 3 (by omega) rfl dL_law_825 dL_law_826 dL_law_828 dL_law_829 dL_law_830 ?_
  refine l_arg C0 hS hL hi hl 4 (by omega) rfl dL_law_831 dL_law_832 dL_law_834 dL_law_835 dL_law_836 ?_
  refine l_arg C0 hS hL hi hl 5 (by omega) rfl dL_law_837 dL_law_838 dL_law_840 dL_law_841 dL_law_842 ?_
  refine l_Mi (As := [.int (xs (i + 1)), .int (xs (i + 2)), .int (xs (i + 3)), .int (xs (i + 4)), .int (xs (i + 5))]) C0 X hW hS (c_X6_bring l D cM aM j2 σm (xs (i + 1)) (xs (i + 2)) (xs (i + 3)) (xs (i + 4)) (xs (i + 5)) _ e2) gL_law_X6_bring rfl ⟨rfl, rfl⟩ hd_X6_bring ⟨Nat.le_of_ble_eq_true rfl, Nat.le_of_ble_eq_true rfl⟩ hcs0 rfl (Nat.le_of_ble_eq_true rfl) hl.1 dL_law_843 (fun H locs hW hS => ?_)
  refine lv_icmp_eq (tgt := 1497) hx hb dL_law_846 (by decide) (fun _ => ?_) (fun c1 => absurd rfl c1)
  exact W.widen (k := cells + 1) (n := slots + 6) (Nat.le_succ _) (Nat.le_add_right _ _) (next _ _ _ _ _ hR2 hW hS hl)
set_option maxHeartbeats 4000000 in
set_option maxRecDepth 100000 in
/-- mayHave -/
theorem law_16 {p : Program} {l : Launch} {e : Env} {s : State} {m : MethodId} {below : List Frame} {meth : Method} {c : Code} {b L : Nat} {xs : Nat → Int32} {H : Heap} {locs : List Loc} {cells slots : Nat} {Q : State → Prop} {ls : Array Slot} {D : va_G} {cC cM : Nat → ClassId} {cO : ClassId} {aC aM : Nat → Nat} {o i : Nat} {σc σm : St} (C0 : lw_At p s m meth c b L xs) (X : LX D cC cM cO aC aM o s) (hR : RR σc σm) (hW : LW D cC cM cO aC aM o σc σm H) (hS : va_S (fun q : Nat => s.heap.size ≤ q) s.heap H locs) (hL : L ≤ 3072) (hi : i + 6 ≤ L) (hl : lv_has ls 8 (lv5 aC aM o b i)) (hcs : cells + 1 ≤ 601024 ∧ slots + 6 ≤ 7293034) (next : NX p l e s m below meth c b Q D cC cM cO aC aM o i cells slots) : W p l e room_1 s m #[Value.ref b] below meth c H locs cells slots Q (F0 m 851 ls []) := by
  obtain ⟨hx, hb, hr, hml, hown, hts, hX, hbl, hlocks, hgv⟩ := id C0
  have hcs0 : cells ≤ 601024 ∧ slots ≤ 7293034 := ⟨by omega, by omega⟩
  have j1 : Ij aC SC := X.2.2.1
  have j2 : Ij aM SM := X.2.2.2.1
  obtain ⟨r, σc', σm', e1, e2, hR2⟩ := sim_mayHave hR (xs (i + 1)) (xs (i + 2)) (xs (i + 3)) (xs (i + 4))
  refine lv_aload_n hx hb dL_law_851 rfl (lv_at hl 1 rfl) ?_
  refine l_arg C0 hS hL hi hl 1 (by omega) rfl dL_law_852 dL_law_853 dL_law_855 dL_law_856 dL_law_857 ?_
  refine l_arg C0 hS hL hi hl 2 (by omega) rfl dL_law_858 dL_law_859 dL_law_861 dL_law_862 dL_law_863 ?_
  refine l_arg C0 hS hL hi hl 3 (by omega) rfl dL_law_864 dL_law_865 dL_law_867 dL_law_868 dL_law_869 ?_
  refine l_arg C0 hS hL hi hl 4 (by omega) rfl dL_law_870 dL_law_871 dL_law_873 dL_law_874 dL_law_875 ?_
  refine l_Ci (As := [.int (xs (i + 1)), .int (xs (i + 2)), .int (xs (i + 3)), .int (xs (i + 4))]) C0 X hW hS (c_X5_mayHave l D cC aC j1 σc (xs (i + 1)) (xs (i + 2)) (xs (i + 3)) (xs (i + 4)) _ e1) gL_law_X5_mayHave rfl ⟨rfl, rfl⟩ hd_X5_mayHave ⟨Nat.le_of_ble_eq_true rfl, Nat.le_of_ble_eq_true rfl⟩ hcs0 rfl (Nat.le_of_ble_eq_true rfl) hl.1 dL_law_876 (fun H locs hW hS => ?_)
  refine lv_aload_n hx hb dL_law_879 rfl (lv_at hl 2 rfl) ?_
  refine l_arg C0 hS hL hi hl 1 (by omega) rfl dL_law_880 dL_law_881 dL_law_883 dL_law_884 dL_law_885 ?_
  refine l_arg C0 hS hL hi hl 2 (by omega) rfl dL_law_886 dL_law_887 dL_law_889 dL_law_890 dL_law_891 ?_
  refine l_arg C0 hS hL hi hl 3 (by omega) rfl dL_law_892 dL_law_893 dL_law_895 dL_law_896 dL_law_897 ?_
  refine l_arg C0 hS hL hi hl 4 (by omega) rfl dL_law_898 dL_law_899 dL_law_901 dL_law_902 dL_law_903 ?_
  refine l_Mi (As := [.int (xs (i + 1)), .int (xs (i + 2)), .int (xs (i + 3)), .int (xs (i + 4))]) C0 X hW hS (c_X6_mayHave l D cM aM j2 σm (xs (i + 1)) (xs (i + 2)) (xs (i + 3)) (xs (i + 4)) _ e2) gL_law_X6_mayHave rfl ⟨rfl, rfl⟩ hd_X6_mayHave ⟨Nat.le_of_ble_eq_true rfl, Nat.le_of_ble_eq_true rfl⟩ hcs0 rfl (Nat.le_of_ble_eq_true rfl) hl.1 dL_law_904 (fun H locs hW hS => ?_)
  refine lv_icmp_eq (tgt := 1497) hx hb dL_law_907 (by decide) (fun _ => ?_) (fun c1 => absurd rfl c1)
  exact W.widen (k := cells + 1) (n := slots + 6) (Nat.le_succ _) (Nat.le_add_right _ _) (next _ _ _ _ _ hR2 hW hS hl)
set_option maxHeartbeats 4000000 in
set_option maxRecDepth 100000 in
/-- tells -/
theorem law_17 {p : Program} {l : Launch} {e : Env} {s : State} {m : MethodId} {below : List Frame} {meth : Method} {c : Code} {b L : Nat} {xs : Nat → Int32} {H : Heap} {locs : List Loc} {cells slots : Nat} {Q : State → Prop} {ls : Array Slot} {D : va_G} {cC cM : Nat → ClassId} {cO : ClassId} {aC aM : Nat → Nat} {o i : Nat} {σc σm : St} (C0 : lw_At p s m meth c b L xs) (X : LX D cC cM cO aC aM o s) (hR : RR σc σm) (hW : LW D cC cM cO aC aM o σc σm H) (hS : va_S (fun q : Nat => s.heap.size ≤ q) s.heap H locs) (hL : L ≤ 3072) (hi : i + 6 ≤ L) (hl : lv_has ls 8 (lv5 aC aM o b i)) (hcs : cells + 1 ≤ 601024 ∧ slots + 6 ≤ 7293034) (next : NX p l e s m below meth c b Q D cC cM cO aC aM o i cells slots) : W p l e room_1 s m #[Value.ref b] below meth c H locs cells slots Q (F0 m 912 ls []) := by
  obtain ⟨hx, hb, hr, hml, hown, hts, hX, hbl, hlocks, hgv⟩ := id C0
  have hcs0 : cells ≤ 601024 ∧ slots ≤ 7293034 := ⟨by omega, by omega⟩
  have j1 : Ij aC SC := X.2.2.1
  have j2 : Ij aM SM := X.2.2.2.1
  obtain ⟨r, σc', σm', e1, e2, hR2⟩ := sim_tells hR (xs (i + 1))
  refine lv_aload_n hx hb dL_law_912 rfl (lv_at hl 1 rfl) ?_
  refine l_arg C0 hS hL hi hl 1 (by omega) rfl dL_law_913 dL_law_914 dL_law_916 dL_law_917 dL_law_918 ?_
  refine l_Ci (As := [.int (xs (i + 1))]) C0 X hW hS (c_X5_tells l D cC aC j1 σc (xs (i + 1)) _ e1) gL_law_X5_tells rfl ⟨rfl, rfl⟩ hd_X5_tells ⟨Nat.le_of_ble_eq_true rfl, Nat.le_of_ble_eq_true rfl⟩ hcs0 rfl (Nat.le_of_ble_eq_true rfl) hl.1 dL_law_919 (fun H locs hW hS => ?_)
  refine lv_aload_n hx hb dL_law_922 rfl (lv_at hl 2 rfl) ?_
  refine l_arg C0 hS hL hi hl 1 (by omega) rfl dL_law_923 dL_law_924 dL_law_926 dL_law_927 dL_law_928 ?_
  refine l_Mi (As := [.int (xs (i + 1))]) C0 X hW hS (c_X6_tells l D cM aM j2 σm (xs (i + 1)) _ e2) gL_law_X6_tells rfl ⟨rfl, rfl⟩ hd_X6_tells ⟨Nat.le_of_ble_eq_true rfl, Nat.le_of_ble_eq_true rfl⟩ hcs0 rfl (Nat.le_of_ble_eq_true rfl) hl.1 dL_law_929 (fun H locs hW hS => ?_)
  refine lv_icmp_eq (tgt := 1497) hx hb dL_law_932 (by decide) (fun _ => ?_) (fun c1 => absurd rfl c1)
  exact W.widen (k := cells + 1) (n := slots + 6) (Nat.le_succ _) (Nat.le_add_right _ _) (next _ _ _ _ _ hR2 hW hS hl)
set_option maxHeartbeats 4000000 in
set_option maxRecDepth 100000 in
/-- lent -/
theorem law_18 {p : Program} {l : Launch} {e : Env} {s : State} {m : MethodId} {below : List Frame} {meth : Method} {c : Code} {b L : Nat} {xs : Nat → Int32} {H : Heap} {locs : List Loc} {cells slots : Nat} {Q : State → Prop} {ls : Array Slot} {D : va_G} {cC cM : Nat → ClassId} {cO : ClassId} {aC aM : Nat → Nat} {o i : Nat} {σc σm : St} (C0 : lw_At p s m meth c b L xs) (X : LX D cC cM cO aC aM o s) (hR : RR σc σm) (hW : LW D cC cM cO aC aM o σc σm H) (hS : va_S (fun q : Nat => s.heap.size ≤ q) s.heap H locs) (hL : L ≤ 3072) (hi : i + 6 ≤ L) (hl : lv_has ls 8 (lv5 aC aM o b i)) (hcs : cells + 1 ≤ 601024 ∧ slots + 6 ≤ 7293034) (next : NX p l e s m below meth c b Q D cC cM cO aC aM o i cells slots) : W p l e room_1 s m #[Value.ref b] below meth c H locs cells slots Q (F0 m 937 ls []) := by
  obtain ⟨hx, hb, hr, hml, hown, hts, hX, hbl, hlocks, hgv⟩ := id C0
  have hcs0 : cells ≤ 601024 ∧ slots ≤ 7293034 := ⟨by omega, by omega⟩
  have j1 : Ij aC SC := X.2.2.1
  have j2 : Ij aM SM := X.2.2.2.1
  obtain ⟨r, σc', σm', e1, e2, hR2⟩ := sim_lent hR (xs (i + 1)) (xs (i + 2))
  refine lv_aload_n hx hb dL_law_937 rfl (lv_at hl 1 rfl) ?_
  refine l_arg C0 hS hL hi hl 1 (by omega) rfl dL_law_938 dL_law_939 dL_law_941 dL_law_942 dL_law_943 ?_
  refine l_arg C0 hS hL hi hl 2 (by omega) rfl dL_law_944 dL_law_945 dL_law_947 dL_law_948 dL_law_949 ?_
  refine l_Ci (As := [.int (xs (i + 1)), .int (xs (i + 2))]) C0 X hW hS (c_X5_lent l D cC aC j1 σc (xs (i + 1)) (xs (i + 2)) _ e1) gL_law_X5_lent rfl ⟨rfl, rfl⟩ hd_X5_lent ⟨Nat.le_of_ble_eq_true rfl, Nat.le_of_ble_eq_true rfl⟩ hcs0 rfl (Nat.le_of_ble_eq_true rfl) hl.1 dL_law_950 (fun H locs hW hS => ?_)
  refine lv_aload_n hx hb dL_law_953 rfl (lv_at hl 2 rfl) ?_
  refine l_arg C0 hS hL hi hl 1 (by omega) rfl dL_law_954 dL_law_955 dL_law_957 dL_law_958 dL_law_959 ?_
  refine l_arg C0 hS hL hi hl 2 (by omega) rfl dL_law_960 dL_law_961 dL_law_963 dL_law_964 dL_law_965 ?_
  refine l_Mi (As := [.int (xs (i + 1)), .int (xs (i + 2))]) C0 X hW hS (c_X6_lent l D cM aM j2 σm (xs (i + 1)) (xs (i + 2)) _ e2) gL_law_X6_lent rfl ⟨rfl, rfl⟩ hd_X6_lent ⟨Nat.le_of_ble_eq_true rfl, Nat.le_of_ble_eq_true rfl⟩ hcs0 rfl (Nat.le_of_ble_eq_true rfl) hl.1 dL_law_966 (fun H locs hW hS => ?_)
  refine lv_icmp_eq (tgt := 1497) hx hb dL_law_969 (by decide) (fun _ => ?_) (fun c1 => absurd rfl c1)
  exact W.widen (k := cells + 1) (n := slots + 6) (Nat.le_succ _) (Nat.le_add_right _ _) (next _ _ _ _ _ hR2 hW hS hl)
set_option maxHeartbeats 4000000 in
set_option maxRecDepth 100000 in
/-- gone -/
theorem law_19 {p : Program} {l : Launch} {e : Env} {s : State} {m : MethodId} {below : List Frame} {meth : Method} {c : Code} {b L : Nat} {xs : Nat → Int32} {H : Heap} {locs : List Loc} {cells slots : Nat} {Q : State → Prop} {ls : Array Slot} {D : va_G} {cC cM : Nat → ClassId} {cO : ClassId} {aC aM : Nat → Nat} {o i : Nat} {σc σm : St} (C0 : lw_At p s m meth c b L xs) (X : LX D cC cM cO aC aM o s) (hR : RR σc σm) (hW : LW D cC cM cO aC aM o σc σm H) (hS : va_S (fun q : Nat => s.heap.size ≤ q) s.heap H locs) (hL : L ≤ 3072) (hi : i + 6 ≤ L) (hl : lv_has ls 8 (lv5 aC aM o b i)) (hcs : cells + 1 ≤ 601024 ∧ slots + 6 ≤ 7293034) (next : NX p l e s m below meth c b Q D cC cM cO aC aM o i cells slots) : W p l e room_1 s m #[Value.ref b] below meth c H locs cells slots Q (F0 m 974 ls []) := by
  obtain ⟨hx, hb, hr, hml, hown, hts, hX, hbl, hlocks, hgv⟩ := id C0
  have hcs0 : cells ≤ 601024 ∧ slots ≤ 7293034 := ⟨by omega, by omega⟩
  have j1 : Ij aC SC := X.2.2.1
  have j2 : Ij aM SM := X.2.2.2.1
  obtain ⟨r, σm', e1, e2, hR2⟩ := sim_gone hR (xs (i + 1)) (xs (i + 2)) (xs (i + 3))
  refine lv_aload_n hx hb dL_law_974 rfl (lv_at hl 1 rfl) ?_
  refine l_arg C0 hS hL hi hl 1 (by omega) rfl dL_law_975 dL_law_976 dL_law_978 dL_law_979 dL_law_980 ?_
  refine l_arg C0 hS hL hi hl 2 (by omega) rfl dL_law_981 dL_law_982 dL_law_984 dL_law_985 dL_law_986 ?_
  refine l_arg C0 hS hL hi hl 3 (by omega) rfl dL_law_987 dL_law_988 dL_law_990 dL_law_991 dL_law_992 ?_
  refine l_Ci (As := [.int (xs (i + 1)), .int (xs (i + 2)), .int (xs (i + 3))]) C0 X hW hS (c_X5_gone l D cC aC j1 σc (xs (i + 1)) (xs (i + 2)) (xs (i + 3)) _ e1) gL_law_X5_gone rfl ⟨rfl, rfl⟩ hd_X5_gone ⟨Nat.le_of_ble_eq_true rfl, Nat.le_of_ble_eq_true rfl⟩ hcs0 rfl (Nat.le_of_ble_eq_true rfl) hl.1 dL_law_993 (fun H locs hW hS => ?_)
  refine lv_aload_n hx hb dL_law_996 rfl (lv_at hl 2 rfl) ?_
  refine l_arg C0 hS hL hi hl 1 (by omega) rfl dL_law_997 dL_law_998 dL_law_1000 dL_law_1001 dL_law_1002 ?_
  refine l_arg C0 hS hL hi hl 2 (by omega) rfl dL_law_1003 dL_law_1004 dL_law_1006 dL_law_1007 dL_law_1008 ?_
  refine l_arg C0 hS hL hi hl 3 (by omega) rfl dL_law_1009 dL_law_1010 dL_law_1012 dL_law_1013 dL_law_1014 ?_
  refine l_Mi (As := [.int (xs (i + 1)), .int (xs (i + 2)), .int (xs (i + 3))]) C0 X hW hS (c_X6_gone l D cM aM j2 σm (xs (i + 1)) (xs (i + 2)) (xs (i + 3)) _ e2) gL_law_X6_gone rfl ⟨rfl, rfl⟩ hd_X6_gone ⟨Nat.le_of_ble_eq_true rfl, Nat.le_of_ble_eq_true rfl⟩ hcs0 rfl (Nat.le_of_ble_eq_true rfl) hl.1 dL_law_1015 (fun H locs hW hS => ?_)
  refine lv_icmp_eq (tgt := 1497) hx hb dL_law_1018 (by decide) (fun _ => ?_) (fun c1 => absurd rfl c1)
  exact W.widen (k := cells + 1) (n := slots + 6) (Nat.le_succ _) (Nat.le_add_right _ _) (next _ _ _ _ _ hR2 hW hS hl)
set_option maxHeartbeats 4000000 in
set_option maxRecDepth 100000 in
/-- seeded -/
theorem law_20 {p : Program} {l : Launch} {e : Env} {s : State} {m : MethodId} {below : List Frame} {meth : Method} {c : Code} {b L : Nat} {xs : Nat → Int32} {H : Heap} {locs : List Loc} {cells slots : Nat} {Q : State → Prop} {ls : Array Slot} {D : va_G} {cC cM : Nat → ClassId} {cO : ClassId} {aC aM : Nat → Nat} {o i : Nat} {σc σm : St} (C0 : lw_At p s m meth c b L xs) (X : LX D cC cM cO aC aM o s) (hR : RR σc σm) (hW : LW D cC cM cO aC aM o σc σm H) (hS : va_S (fun q : Nat => s.heap.size ≤ q) s.heap H locs) (hL : L ≤ 3072) (hi : i + 6 ≤ L) (hl : lv_has ls 8 (lv5 aC aM o b i)) (hcs : cells + 1 ≤ 601024 ∧ slots + 6 ≤ 7293034) (next : NX p l e s m below meth c b Q D cC cM cO aC aM o i cells slots) : W p l e room_1 s m #[Value.ref b] below meth c H locs cells slots Q (F0 m 1023 ls []) := by
  obtain ⟨hx, hb, hr, hml, hown, hts, hX, hbl, hlocks, hgv⟩ := id C0
  have hcs0 : cells ≤ 601024 ∧ slots ≤ 7293034 := ⟨by omega, by omega⟩
  have j1 : Ij aC SC := X.2.2.1
  have j2 : Ij aM SM := X.2.2.2.1
  obtain ⟨r, σc', σm', e1, e2, hR2⟩ := sim_seeded hR (xs (i + 1)) (xs (i + 2)) (xs (i + 3))
  refine lv_aload_n hx hb dL_law_1023 rfl (lv_at hl 1 rfl) ?_
  refine l_arg C0 hS hL hi hl 1 (by omega) rfl dL_law_1024 dL_law_1025 dL_law_1027 dL_law_1028 dL_law_1029 ?_
  refine l_arg C0 hS hL hi hl 2 (by omega) rfl dL_law_1030 dL_law_1031 dL_law_1033 dL_law_1034 dL_law_1035 ?_
  refine l_arg C0 hS hL hi hl 3 (by omega) rfl dL_law_1036 dL_law_1037 dL_law_1039 dL_law_1040 dL_law_1041 ?_
  refine l_Ci (As := [.int (xs (i + 1)), .int (xs (i + 2)), .int (xs (i + 3))]) C0 X hW hS (c_X5_seeded l D cC aC j1 σc (xs (i + 1)) (xs (i + 2)) (xs (i + 3)) _ e1) gL_law_X5_seeded rfl ⟨rfl, rfl⟩ hd_X5_seeded ⟨Nat.le_of_ble_eq_true rfl, Nat.le_of_ble_eq_true rfl⟩ hcs0 rfl (Nat.le_of_ble_eq_true rfl) hl.1 dL_law_1042 (fun H locs hW hS => ?_)
  refine lv_aload_n hx hb dL_law_1045 rfl (lv_at hl 2 rfl) ?_
  refine l_arg C0 hS hL hi hl 1 (by omega) rfl dL_law_1046 dL_law_1047 dL_law_1049 dL_law_1050 dL_law_1051 ?_
  refine l_arg C0 hS hL hi hl 2 (by omega) rfl dL_law_1052 dL_law_1053 dL_law_1055 dL_law_1056 dL_law_1057 ?_
  refine l_arg C0 hS hL hi hl 3 (by omega) rfl dL_law_1058 dL_law_1059 dL_law_1061 dL_law_1062 dL_law_1063 ?_
  refine l_Mi (As := [.int (xs (i + 1)), .int (xs (i + 2)), .int (xs (i + 3))]) C0 X hW hS (c_X6_seeded l D cM aM j2 σm (xs (i + 1)) (xs (i + 2)) (xs (i + 3)) _ e2) gL_law_X6_seeded rfl ⟨rfl, rfl⟩ hd_X6_seeded ⟨Nat.le_of_ble_eq_true rfl, Nat.le_of_ble_eq_true rfl⟩ hcs0 rfl (Nat.le_of_ble_eq_true rfl) hl.1 dL_law_1064 (fun H locs hW hS => ?_)
  refine lv_icmp_eq (tgt := 1497) hx hb dL_law_1067 (by decide) (fun _ => ?_) (fun c1 => absurd rfl c1)
  exact W.widen (k := cells + 1) (n := slots + 6) (Nat.le_succ _) (Nat.le_add_right _ _) (next _ _ _ _ _ hR2 hW hS hl)
set_option maxHeartbeats 4000000 in
set_option maxRecDepth 100000 in
/-- judge -/
theorem law_21 {p : Program} {l : Launch} {e : Env} {s : State} {m : MethodId} {below : List Frame} {meth : Method} {c : Code} {b L : Nat} {xs : Nat → Int32} {H : Heap} {locs : List Loc} {cells slots : Nat} {Q : State → Prop} {ls : Array Slot} {D : va_G} {cC cM : Nat → ClassId} {cO : ClassId} {aC aM : Nat → Nat} {o i : Nat} {σc σm : St} (C0 : lw_At p s m meth c b L xs) (X : LX D cC cM cO aC aM o s) (hR : RR σc σm) (hW : LW D cC cM cO aC aM o σc σm H) (hS : va_S (fun q : Nat => s.heap.size ≤ q) s.heap H locs) (hL : L ≤ 3072) (hi : i + 6 ≤ L) (hl : lv_has ls 8 (lv5 aC aM o b i)) (hcs : cells + 1 ≤ 601024 ∧ slots + 6 ≤ 7293034) (next : NX p l e s m below meth c b Q D cC cM cO aC aM o i cells slots) : W p l e room_1 s m #[Value.ref b] below meth c H locs cells slots Q (F0 m 1072 ls []) := by
  obtain ⟨hx, hb, hr, hml, hown, hts, hX, hbl, hlocks, hgv⟩ := id C0
  have hcs0 : cells ≤ 601024 ∧ slots ≤ 7293034 := ⟨by omega, by omega⟩
  have j1 : Ij aC SC := X.2.2.1
  have j2 : Ij aM SM := X.2.2.2.1
  obtain ⟨r, σm', e1, e2, hR2⟩ := sim_judge hR (xs (i + 1))
  refine lv_aload_n hx hb dL_law_1072 rfl (lv_at hl 1 rfl) ?_
  refine l_arg C0 hS hL hi hl 1 (by omega) rfl dL_law_1073 dL_law_1074 dL_law_1076 dL_law_1077 dL_law_1078 ?_
  refine l_Ci (As := [.int (xs (i + 1))]) C0 X hW hS (c_X5_judge l D cC aC j1 σc (xs (i + 1)) _ e1) gL_law_X5_judge rfl ⟨rfl, rfl⟩ hd_X5_judge ⟨Nat.le_of_ble_eq_true rfl, Nat.le_of_ble_eq_true rfl⟩ hcs0 rfl (Nat.le_of_ble_eq_true rfl) hl.1 dL_law_1079 (fun H locs hW hS => ?_)
  refine lv_aload_n hx hb dL_law_1082 rfl (lv_at hl 2 rfl) ?_
  refine l_arg C0 hS hL hi hl 1 (by omega) rfl dL_law_1083 dL_law_1084 dL_law_1086 dL_law_1087 dL_law_1088 ?_
  refine l_Mi (As := [.int (xs (i + 1))]) C0 X hW hS (c_X6_judge l D cM aM j2 σm (xs (i + 1)) _ e2) gL_law_X6_judge rfl ⟨rfl, rfl⟩ hd_X6_judge ⟨Nat.le_of_ble_eq_true rfl, Nat.le_of_ble_eq_true rfl⟩ hcs0 rfl (Nat.le_of_ble_eq_true rfl) hl.1 dL_law_1089 (fun H locs hW hS => ?_)
  refine lv_icmp_eq (tgt := 1497) hx hb dL_law_1092 (by decide) (fun _ => ?_) (fun c1 => absurd rfl c1)
  exact W.widen (k := cells + 1) (n := slots + 6) (Nat.le_succ _) (Nat.le_add_right _ _) (next _ _ _ _ _ hR2 hW hS hl)
set_option maxHeartbeats 4000000 in
set_option maxRecDepth 100000 in
/-- image -/
theorem law_22 {p : Program} {l : Launch} {e : Env} {s : State} {m : MethodId} {below : List Frame} {meth : Method} {c : Code} {b L : Nat} {xs : Nat → Int32} {H : Heap} {locs : List Loc} {cells slots : Nat} {Q : State → Prop} {ls : Array Slot} {D : va_G} {cC cM : Nat → ClassId} {cO : ClassId} {aC aM : Nat → Nat} {o i : Nat} {σc σm : St} (C0 : lw_At p s m meth c b L xs) (X : LX D cC cM cO aC aM o s) (hR : RR σc σm) (hW : LW D cC cM cO aC aM o σc σm H) (hS : va_S (fun q : Nat => s.heap.size ≤ q) s.heap H locs) (hL : L ≤ 3072) (hi : i + 6 ≤ L) (hl : lv_has ls 8 (lv5 aC aM o b i)) (hcs : cells + 1 ≤ 601024 ∧ slots + 6 ≤ 7293034) (next : NX p l e s m below meth c b Q D cC cM cO aC aM o i cells slots) : W p l e room_1 s m #[Value.ref b] below meth c H locs cells slots Q (F0 m 1097 ls []) := by
  obtain ⟨hx, hb, hr, hml, hown, hts, hX, hbl, hlocks, hgv⟩ := id C0
  have hcs0 : cells ≤ 601024 ∧ slots ≤ 7293034 := ⟨by omega, by omega⟩
  have j1 : Ij aC SC := X.2.2.1
  have j2 : Ij aM SM := X.2.2.2.1
  obtain ⟨r, σc', σm', e1, e2, hR2⟩ := sim_image hR 
  refine lv_aload_n hx hb dL_law_1097 rfl (lv_at hl 1 rfl) ?_
  refine l_Ci (As := []) C0 X hW hS (c_X5_image l D cC aC j1 σc  _ e1) gL_law_X5_image rfl ⟨rfl, rfl⟩ hd_X5_image ⟨Nat.le_of_ble_eq_true rfl, Nat.le_of_ble_eq_true rfl⟩ hcs0 rfl (Nat.le_of_ble_eq_true rfl) hl.1 dL_law_1098 (fun H locs hW hS => ?_)
  refine lv_aload_n hx hb dL_law_1101 rfl (lv_at hl 2 rfl) ?_
  refine l_Mi (As := []) C0 X hW hS (c_X6_image l D cM aM j2 σm  _ e2) gL_law_X6_image rfl ⟨rfl, rfl⟩ hd_X6_image ⟨Nat.le_of_ble_eq_true rfl, Nat.le_of_ble_eq_true rfl⟩ hcs0 rfl (Nat.le_of_ble_eq_true rfl) hl.1 dL_law_1102 (fun H locs hW hS => ?_)
  refine lv_icmp_eq (tgt := 1497) hx hb dL_law_1105 (by decide) (fun _ => ?_) (fun c1 => absurd rfl c1)
  exact W.widen (k := cells + 1) (n := slots + 6) (Nat.le_succ _) (Nat.le_add_right _ _) (next _ _ _ _ _ hR2 hW hS hl)
