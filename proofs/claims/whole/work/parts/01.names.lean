-- ===== PART A: goes FIRST, ahead of the names: the tables' words, and 'selects' of the private methods out of them =====
/-- a private method of a class that the tables say can be made, by its rows of tables_1 -/
def lw_okq (q : MethodName × Nat) : Prop := (q.1.cls ≠ "java/lang/invoke/MethodHandle" ∧ q.1.cls ≠ "java/lang/invoke/VarHandle") ∧ Cond.instantiable q.1.cls q.2 ∈ tables_1 ∧ Cond.privateMethod q.1 ∈ tables_1 ∧ Cond.instanceMethod q.1 ∈ tables_1
theorem lw_p0 : lw_okq (⟨"ThirdOfTheLast", "bytesRefusal", "(I)I"⟩, 8) := ⟨⟨by decide +kernel, by decide +kernel⟩, List.mem_of_getElem? (i := 16) (by decide +kernel), List.mem_of_getElem? (i := 181) (by decide +kernel), List.mem_of_getElem? (i := 182) (by decide +kernel)⟩
theorem lw_p1 : lw_okq (⟨"ThirdOfTheLast", "rowRefusal", "(I)I"⟩, 8) := ⟨⟨by decide +kernel, by decide +kernel⟩, List.mem_of_getElem? (i := 16) (by decide +kernel), List.mem_of_getElem? (i := 185) (by decide +kernel), List.mem_of_getElem? (i := 186) (by decide +kernel)⟩
theorem lw_p2 : lw_okq (⟨"ThirdOfTheLast$Kitchen", "cookIn", "(III)Z"⟩, 2) := ⟨⟨by decide +kernel, by decide +kernel⟩, List.mem_of_getElem? (i := 24) (by decide +kernel), List.mem_of_getElem? (i := 249) (by decide +kernel), List.mem_of_getElem? (i := 250) (by decide +kernel)⟩
theorem lw_p3 : lw_okq (⟨"ThirdOfTheLast$Kitchen", "renew", "(I)Z"⟩, 2) := ⟨⟨by decide +kernel, by decide +kernel⟩, List.mem_of_getElem? (i := 24) (by decide +kernel), List.mem_of_getElem? (i := 279) (by decide +kernel), List.mem_of_getElem? (i := 280) (by decide +kernel)⟩
theorem lw_p4 : lw_okq (⟨"ThirdOfTheLast$Kitchen", "makeAlike", "(II)Z"⟩, 2) := ⟨⟨by decide +kernel, by decide +kernel⟩, List.mem_of_getElem? (i := 24) (by decide +kernel), List.mem_of_getElem? (i := 283) (by decide +kernel), List.mem_of_getElem? (i := 284) (by decide +kernel)⟩
theorem lw_p5 : lw_okq (⟨"ThirdOfTheLast", "dishRefusal", "(I)I"⟩, 8) := ⟨⟨by decide +kernel, by decide +kernel⟩, List.mem_of_getElem? (i := 16) (by decide +kernel), List.mem_of_getElem? (i := 299) (by decide +kernel), List.mem_of_getElem? (i := 300) (by decide +kernel)⟩
theorem lw_p6 : lw_okq (⟨"ThirdOfTheLast", "isPlan", "(LThirdOfTheLast$Shelf;)Z"⟩, 8) := ⟨⟨by decide +kernel, by decide +kernel⟩, List.mem_of_getElem? (i := 16) (by decide +kernel), List.mem_of_getElem? (i := 413) (by decide +kernel), List.mem_of_getElem? (i := 414) (by decide +kernel)⟩
theorem lw_p7 : lw_okq (⟨"ThirdOfTheLast$Mind", "staysGood", "(LThirdOfTheLast$Flavour;LThirdOfTheLast$Shelf;I)Z"⟩, 7) := ⟨⟨by decide +kernel, by decide +kernel⟩, List.mem_of_getElem? (i := 83) (by decide +kernel), List.mem_of_getElem? (i := 432) (by decide +kernel), List.mem_of_getElem? (i := 433) (by decide +kernel)⟩
theorem lw_p8 : lw_okq (⟨"ThirdOfTheLast", "firstBringing", "(LThirdOfTheLast$Flavour;IIII)I"⟩, 8) := ⟨⟨by decide +kernel, by decide +kernel⟩, List.mem_of_getElem? (i := 16) (by decide +kernel), List.mem_of_getElem? (i := 459) (by decide +kernel), List.mem_of_getElem? (i := 460) (by decide +kernel)⟩
theorem lw_p9 : lw_okq (⟨"ThirdOfTheLast", "mostAlike", "(I)I"⟩, 8) := ⟨⟨by decide +kernel, by decide +kernel⟩, List.mem_of_getElem? (i := 16) (by decide +kernel), List.mem_of_getElem? (i := 495) (by decide +kernel), List.mem_of_getElem? (i := 496) (by decide +kernel)⟩
theorem lw_p10 : lw_okq (⟨"java/lang/Throwable", "fillInStackTrace", "(I)Ljava/lang/Throwable;"⟩, 6) := ⟨⟨by decide +kernel, by decide +kernel⟩, List.mem_of_getElem? (i := 651) (by decide +kernel), List.mem_of_getElem? (i := 649) (by decide +kernel), List.mem_of_getElem? (i := 650) (by decide +kernel)⟩
theorem lw_p11 : lw_okq (⟨"ThirdOfTheLastModel", "wrongSort", "(II)I"⟩, 33) := ⟨⟨by decide +kernel, by decide +kernel⟩, List.mem_of_getElem? (i := 691) (by decide +kernel), List.mem_of_getElem? (i := 819) (by decide +kernel), List.mem_of_getElem? (i := 820) (by decide +kernel)⟩
theorem lw_p12 : lw_okq (⟨"ThirdOfTheLastModel", "wrongRow", "(I)I"⟩, 33) := ⟨⟨by decide +kernel, by decide +kernel⟩, List.mem_of_getElem? (i := 691) (by decide +kernel), List.mem_of_getElem? (i := 823) (by decide +kernel), List.mem_of_getElem? (i := 824) (by decide +kernel)⟩
theorem lw_p13 : lw_okq (⟨"ThirdOfTheLastModel", "readStatement", "()V"⟩, 33) := ⟨⟨by decide +kernel, by decide +kernel⟩, List.mem_of_getElem? (i := 691) (by decide +kernel), List.mem_of_getElem? (i := 831) (by decide +kernel), List.mem_of_getElem? (i := 832) (by decide +kernel)⟩
theorem lw_p14 : lw_okq (⟨"ThirdOfTheLastModel", "here", "()I"⟩, 33) := ⟨⟨by decide +kernel, by decide +kernel⟩, List.mem_of_getElem? (i := 691) (by decide +kernel), List.mem_of_getElem? (i := 835) (by decide +kernel), List.mem_of_getElem? (i := 836) (by decide +kernel)⟩
theorem lw_p15 : lw_okq (⟨"ThirdOfTheLastModel", "readDigit", "()I"⟩, 33) := ⟨⟨by decide +kernel, by decide +kernel⟩, List.mem_of_getElem? (i := 691) (by decide +kernel), List.mem_of_getElem? (i := 839) (by decide +kernel), List.mem_of_getElem? (i := 840) (by decide +kernel)⟩
def lw_privs_1 : List (MethodName × Nat) := [(⟨"ThirdOfTheLast", "bytesRefusal", "(I)I"⟩, 8), (⟨"ThirdOfTheLast", "rowRefusal", "(I)I"⟩, 8), (⟨"ThirdOfTheLast$Kitchen", "cookIn", "(III)Z"⟩, 2), (⟨"ThirdOfTheLast$Kitchen", "renew", "(I)Z"⟩, 2), (⟨"ThirdOfTheLast$Kitchen", "makeAlike", "(II)Z"⟩, 2), (⟨"ThirdOfTheLast", "dishRefusal", "(I)I"⟩, 8), (⟨"ThirdOfTheLast", "isPlan", "(LThirdOfTheLast$Shelf;)Z"⟩, 8), (⟨"ThirdOfTheLast$Mind", "staysGood", "(LThirdOfTheLast$Flavour;LThirdOfTheLast$Shelf;I)Z"⟩, 7), (⟨"ThirdOfTheLast", "firstBringing", "(LThirdOfTheLast$Flavour;IIII)I"⟩, 8), (⟨"ThirdOfTheLast", "mostAlike", "(I)I"⟩, 8), (⟨"java/lang/Throwable", "fillInStackTrace", "(I)Ljava/lang/Throwable;"⟩, 6), (⟨"ThirdOfTheLastModel", "wrongSort", "(II)I"⟩, 33), (⟨"ThirdOfTheLastModel", "wrongRow", "(I)I"⟩, 33), (⟨"ThirdOfTheLastModel", "readStatement", "()V"⟩, 33), (⟨"ThirdOfTheLastModel", "here", "()I"⟩, 33), (⟨"ThirdOfTheLastModel", "readDigit", "()I"⟩, 33)]
theorem lw_r1 : ∀ q ∈ lw_privs_1, lw_okq q := List.forall_mem_cons.mpr ⟨lw_p0, List.forall_mem_cons.mpr ⟨lw_p1, List.forall_mem_cons.mpr ⟨lw_p2, List.forall_mem_cons.mpr ⟨lw_p3, List.forall_mem_cons.mpr ⟨lw_p4, List.forall_mem_cons.mpr ⟨lw_p5, List.forall_mem_cons.mpr ⟨lw_p6, List.forall_mem_cons.mpr ⟨lw_p7, List.forall_mem_cons.mpr ⟨lw_p8, List.forall_mem_cons.mpr ⟨lw_p9, List.forall_mem_cons.mpr ⟨lw_p10, List.forall_mem_cons.mpr ⟨lw_p11, List.forall_mem_cons.mpr ⟨lw_p12, List.forall_mem_cons.mpr ⟨lw_p13, List.forall_mem_cons.mpr ⟨lw_p14, List.forall_mem_cons.mpr ⟨lw_p15, fun _ h => absurd h List.not_mem_nil⟩⟩⟩⟩⟩⟩⟩⟩⟩⟩⟩⟩⟩⟩⟩⟩
theorem lw_p16 : lw_okq (⟨"ThirdOfTheLastModel", "open", "()V"⟩, 33) := ⟨⟨by decide +kernel, by decide +kernel⟩, List.mem_of_getElem? (i := 691) (by decide +kernel), List.mem_of_getElem? (i := 845) (by decide +kernel), List.mem_of_getElem? (i := 846) (by decide +kernel)⟩
theorem lw_p17 : lw_okq (⟨"ThirdOfTheLastModel", "comes", "(I)Z"⟩, 33) := ⟨⟨by decide +kernel, by decide +kernel⟩, List.mem_of_getElem? (i := 691) (by decide +kernel), List.mem_of_getElem? (i := 849) (by decide +kernel), List.mem_of_getElem? (i := 850) (by decide +kernel)⟩
theorem lw_p18 : lw_okq (⟨"ThirdOfTheLastModel", "empty", "(I)V"⟩, 33) := ⟨⟨by decide +kernel, by decide +kernel⟩, List.mem_of_getElem? (i := 691) (by decide +kernel), List.mem_of_getElem? (i := 853) (by decide +kernel), List.mem_of_getElem? (i := 854) (by decide +kernel)⟩
theorem lw_p19 : lw_okq (⟨"ThirdOfTheLastModel", "isPot", "(I)Z"⟩, 33) := ⟨⟨by decide +kernel, by decide +kernel⟩, List.mem_of_getElem? (i := 691) (by decide +kernel), List.mem_of_getElem? (i := 857) (by decide +kernel), List.mem_of_getElem? (i := 858) (by decide +kernel)⟩
theorem lw_p20 : lw_okq (⟨"ThirdOfTheLastModel", "cooks", "(III)Z"⟩, 33) := ⟨⟨by decide +kernel, by decide +kernel⟩, List.mem_of_getElem? (i := 691) (by decide +kernel), List.mem_of_getElem? (i := 861) (by decide +kernel), List.mem_of_getElem? (i := 862) (by decide +kernel)⟩
theorem lw_p21 : lw_okq (⟨"ThirdOfTheLastModel", "becomes", "(III)V"⟩, 33) := ⟨⟨by decide +kernel, by decide +kernel⟩, List.mem_of_getElem? (i := 691) (by decide +kernel), List.mem_of_getElem? (i := 865) (by decide +kernel), List.mem_of_getElem? (i := 866) (by decide +kernel)⟩
theorem lw_p22 : lw_okq (⟨"ThirdOfTheLastModel", "same", "(II)V"⟩, 33) := ⟨⟨by decide +kernel, by decide +kernel⟩, List.mem_of_getElem? (i := 691) (by decide +kernel), List.mem_of_getElem? (i := 879) (by decide +kernel), List.mem_of_getElem? (i := 880) (by decide +kernel)⟩
theorem lw_p23 : lw_okq (⟨"ThirdOfTheLastModel", "close", "()V"⟩, 33) := ⟨⟨by decide +kernel, by decide +kernel⟩, List.mem_of_getElem? (i := 691) (by decide +kernel), List.mem_of_getElem? (i := 883) (by decide +kernel), List.mem_of_getElem? (i := 884) (by decide +kernel)⟩
theorem lw_p24 : lw_okq (⟨"ThirdOfTheLastModel", "wrongDish", "(I)I"⟩, 33) := ⟨⟨by decide +kernel, by decide +kernel⟩, List.mem_of_getElem? (i := 691) (by decide +kernel), List.mem_of_getElem? (i := 895) (by decide +kernel), List.mem_of_getElem? (i := 896) (by decide +kernel)⟩
theorem lw_p25 : lw_okq (⟨"ThirdOfTheLastModel", "allOf", "(I)J"⟩, 33) := ⟨⟨by decide +kernel, by decide +kernel⟩, List.mem_of_getElem? (i := 691) (by decide +kernel), List.mem_of_getElem? (i := 920) (by decide +kernel), List.mem_of_getElem? (i := 921) (by decide +kernel)⟩
theorem lw_p26 : lw_okq (⟨"ThirdOfTheLastModel", "portionOf", "(II)I"⟩, 33) := ⟨⟨by decide +kernel, by decide +kernel⟩, List.mem_of_getElem? (i := 691) (by decide +kernel), List.mem_of_getElem? (i := 928) (by decide +kernel), List.mem_of_getElem? (i := 929) (by decide +kernel)⟩
theorem lw_p27 : lw_okq (⟨"ThirdOfTheLastModel", "isOver", "(III)Z"⟩, 33) := ⟨⟨by decide +kernel, by decide +kernel⟩, List.mem_of_getElem? (i := 691) (by decide +kernel), List.mem_of_getElem? (i := 937) (by decide +kernel), List.mem_of_getElem? (i := 938) (by decide +kernel)⟩
theorem lw_p28 : lw_okq (⟨"ThirdOfTheLastModel", "partOf", "(II)J"⟩, 33) := ⟨⟨by decide +kernel, by decide +kernel⟩, List.mem_of_getElem? (i := 691) (by decide +kernel), List.mem_of_getElem? (i := 945) (by decide +kernel), List.mem_of_getElem? (i := 946) (by decide +kernel)⟩
theorem lw_p29 : lw_okq (⟨"ThirdOfTheLastModel", "doesHarm", "(III)Z"⟩, 33) := ⟨⟨by decide +kernel, by decide +kernel⟩, List.mem_of_getElem? (i := 691) (by decide +kernel), List.mem_of_getElem? (i := 965) (by decide +kernel), List.mem_of_getElem? (i := 966) (by decide +kernel)⟩
theorem lw_p30 : lw_okq (⟨"ThirdOfTheLastModel", "wrongDishes", "(III)I"⟩, 33) := ⟨⟨by decide +kernel, by decide +kernel⟩, List.mem_of_getElem? (i := 691) (by decide +kernel), List.mem_of_getElem? (i := 973) (by decide +kernel), List.mem_of_getElem? (i := 974) (by decide +kernel)⟩
theorem lw_p31 : lw_okq (⟨"ThirdOfTheLastModel", "element0", "(II)I"⟩, 33) := ⟨⟨by decide +kernel, by decide +kernel⟩, List.mem_of_getElem? (i := 691) (by decide +kernel), List.mem_of_getElem? (i := 977) (by decide +kernel), List.mem_of_getElem? (i := 978) (by decide +kernel)⟩
def lw_privs_2 : List (MethodName × Nat) := [(⟨"ThirdOfTheLastModel", "open", "()V"⟩, 33), (⟨"ThirdOfTheLastModel", "comes", "(I)Z"⟩, 33), (⟨"ThirdOfTheLastModel", "empty", "(I)V"⟩, 33), (⟨"ThirdOfTheLastModel", "isPot", "(I)Z"⟩, 33), (⟨"ThirdOfTheLastModel", "cooks", "(III)Z"⟩, 33), (⟨"ThirdOfTheLastModel", "becomes", "(III)V"⟩, 33), (⟨"ThirdOfTheLastModel", "same", "(II)V"⟩, 33), (⟨"ThirdOfTheLastModel", "close", "()V"⟩, 33), (⟨"ThirdOfTheLastModel", "wrongDish", "(I)I"⟩, 33), (⟨"ThirdOfTheLastModel", "allOf", "(I)J"⟩, 33), (⟨"ThirdOfTheLastModel", "portionOf", "(II)I"⟩, 33), (⟨"ThirdOfTheLastModel", "isOver", "(III)Z"⟩, 33), (⟨"ThirdOfTheLastModel", "partOf", "(II)J"⟩, 33), (⟨"ThirdOfTheLastModel", "doesHarm", "(III)Z"⟩, 33), (⟨"ThirdOfTheLastModel", "wrongDishes", "(III)I"⟩, 33), (⟨"ThirdOfTheLastModel", "element0", "(II)I"⟩, 33)]
theorem lw_r2 : ∀ q ∈ lw_privs_2, lw_okq q := List.forall_mem_cons.mpr ⟨lw_p16, List.forall_mem_cons.mpr ⟨lw_p17, List.forall_mem_cons.mpr ⟨lw_p18, List.forall_mem_cons.mpr ⟨lw_p19, List.forall_mem_cons.mpr ⟨lw_p20, List.forall_mem_cons.mpr ⟨lw_p21, List.forall_mem_cons.mpr ⟨lw_p22, List.forall_mem_cons.mpr ⟨lw_p23, List.forall_mem_cons.mpr ⟨lw_p24, List.forall_mem_cons.mpr ⟨lw_p25, List.forall_mem_cons.mpr ⟨lw_p26, List.forall_mem_cons.mpr ⟨lw_p27, List.forall_mem_cons.mpr ⟨lw_p28, List.forall_mem_cons.mpr ⟨lw_p29, List.forall_mem_cons.mpr ⟨lw_p30, List.forall_mem_cons.mpr ⟨lw_p31, fun _ h => absurd h List.not_mem_nil⟩⟩⟩⟩⟩⟩⟩⟩⟩⟩⟩⟩⟩⟩⟩⟩
theorem lw_p32 : lw_okq (⟨"ThirdOfTheLastModel", "cooksCode", "(III)Z"⟩, 33) := ⟨⟨by decide +kernel, by decide +kernel⟩, List.mem_of_getElem? (i := 691) (by decide +kernel), List.mem_of_getElem? (i := 992) (by decide +kernel), List.mem_of_getElem? (i := 993) (by decide +kernel)⟩
theorem lw_p33 : lw_okq (⟨"ThirdOfTheLastModel", "alikeIn", "(I)I"⟩, 33) := ⟨⟨by decide +kernel, by decide +kernel⟩, List.mem_of_getElem? (i := 691) (by decide +kernel), List.mem_of_getElem? (i := 1007) (by decide +kernel), List.mem_of_getElem? (i := 1008) (by decide +kernel)⟩
theorem lw_p34 : lw_okq (⟨"ThirdOfTheLastModel", "draw", "(I)I"⟩, 33) := ⟨⟨by decide +kernel, by decide +kernel⟩, List.mem_of_getElem? (i := 691) (by decide +kernel), List.mem_of_getElem? (i := 1025) (by decide +kernel), List.mem_of_getElem? (i := 1026) (by decide +kernel)⟩
theorem lw_p35 : lw_okq (⟨"ThirdOfTheLastModel", "skippedIn", "(I)J"⟩, 33) := ⟨⟨by decide +kernel, by decide +kernel⟩, List.mem_of_getElem? (i := 691) (by decide +kernel), List.mem_of_getElem? (i := 1036) (by decide +kernel), List.mem_of_getElem? (i := 1037) (by decide +kernel)⟩
def lw_privs_3 : List (MethodName × Nat) := [(⟨"ThirdOfTheLastModel", "cooksCode", "(III)Z"⟩, 33), (⟨"ThirdOfTheLastModel", "alikeIn", "(I)I"⟩, 33), (⟨"ThirdOfTheLastModel", "draw", "(I)I"⟩, 33), (⟨"ThirdOfTheLastModel", "skippedIn", "(I)J"⟩, 33)]
theorem lw_r3 : ∀ q ∈ lw_privs_3, lw_okq q := List.forall_mem_cons.mpr ⟨lw_p32, List.forall_mem_cons.mpr ⟨lw_p33, List.forall_mem_cons.mpr ⟨lw_p34, List.forall_mem_cons.mpr ⟨lw_p35, fun _ h => absurd h List.not_mem_nil⟩⟩⟩⟩
def lw_privs : List (MethodName × Nat) := lw_privs_1 ++ (lw_privs_2 ++ (lw_privs_3))
def lw_tbl : List Cond := k2_sels lw_privs ++ tables_1
theorem lw_privs_ok : ∀ q ∈ lw_privs, lw_okq q := by
  show ∀ q ∈ lw_privs_1 ++ (lw_privs_2 ++ (lw_privs_3)), lw_okq q
  exact List.forall_mem_append.mpr ⟨lw_r1, List.forall_mem_append.mpr ⟨lw_r2, lw_r3⟩⟩
-- ===== end of PART A; then your names; then what follows =====
/-! ===== BEGIN words of one list among another's, by their places ===== -/
theorem goodIn_r {big : List Cond} (ws : List Cond) (ps : List Nat) (hp : ws = ps.filterMap (fun i => big[i]?)) (h : ws.all goodWord = true) : GoodIn big ws := by
  intro w hw
  have h1 := List.all_eq_true.mp h w hw
  rw [hp] at hw
  obtain ⟨i, -, hi⟩ := List.mem_filterMap.mp hw
  have hm : w ∈ big := by first | exact List.mem_of_getElem? hi | exact List.getElem?_mem hi
  exact ⟨hm, good_of_word h1⟩
theorem goodIn_app {big a b : List Cond} (ha : GoodIn big a) (hb : GoodIn big b) : GoodIn big (a ++ b) := fun w h => (List.mem_append.mp h).elim (ha w) (hb w)
theorem goodIn_ca {big a b : List Cond} {c : Cond} (ha : GoodIn big (c :: a)) (hb : GoodIn big b) : GoodIn big (c :: (a ++ b)) := fun w h => (List.mem_cons.mp h).elim (fun e => ha w (List.mem_cons.mpr (Or.inl e))) (fun h => (List.mem_append.mp h).elim (fun h => ha w (List.mem_cons.mpr (Or.inr h))) (hb w))
theorem goodIn_sub {big ws : List Cond} (hm : ∀ w ∈ ws, w ∈ big) (h : ws.all goodWord = true) : GoodIn big ws := fun w hw => ⟨hm w hw, good_of_word (List.all_eq_true.mp h w hw)⟩
/-! ===== END ===== -/

/-! ===== BEGIN exceptions that leave a method, and their catching by the caller (launches without stack traces) ===== -/
section VXA
/-! The laws vx_back, vx_callV, vx_callS, vx_callSW, vx_throw0, vx_throwS follow proofs of the library, with one case more: JvmDerived/Free/Laws.lean (Back.of_free), Shelf42/LK1.lean (callV, callS), Shelf/KitTraced.lean (throwNew0V, throwNewS). -/
/-- where a method has thrown q: the class by its name, the cell, what was written, the world -/
def vx_T (XC : String → State → State → Prop) (st : State) (q : Addr) (t : State) (mc ms : Nat) (free : Addr → Prop) : Prop :=
  ∃ (E : String) (ce : Cell) (L : List Loc), XC E st t ∧ t.heap[q]? = some ce ∧ ce.vm = .none ∧ st.vm.findClass E = some ce.cls ∧ st.WarmedH t.vm ∧ st.sameButNew ({ t with vm := st.vm } : State) L mc ms ∧ ∀ z ∈ L, free z.base
def vx_Q (Qc : Array Value → State → Outcome → State → Prop) (XC : String → State → State → Prop) (mc ms : Nat) (free : Addr → Prop) : Array Value → State → Outcome → State → Prop := fun a st o t =>
  (Qc a st o t ∧ ∃ L, FrameEnd st o t L mc ms ∧ ∀ q ∈ L, free q.base) ∨ ∃ q, o = .threw q ∧ vx_T XC st q t mc ms free
/-- a callee that returns or throws -/
def vx_Met (l : Launch) (y : MethodName) (ws : List Cond) (rm : Room) (Pc : Array Value → State → Prop) (Qc : Array Value → State → Outcome → State → Prop) (XC : String → State → State → Prop) (mc ms : Nat) (free : Addr → Prop) : Prop :=
  MetFree l y (headSpec ws rm) Pc (fun _ _ _ _ _ => True) (vx_Q Qc XC mc ms free)
def vx_Post (XC : String → State → State → Prop) (mc ms : Nat) (free : Addr → Prop) : Pt → Array Value → Addr → Pt → Prop := fun A a q B =>
  ∃ (g : JFrame) (mk : MethodId) (t : State) (L : List Loc) (E : String) (ce : Cell), B.U.heap = t.heap ∧ B.U.vm = t.vm ∧ XC E (A.U.calling g mk a) t ∧ t.heap[q]? = some ce ∧ ce.vm = .none ∧ A.U.vm.findClass E = some ce.cls ∧ B.locs = A.locs ++ L ∧ (∀ z ∈ L, free z.base) ∧ B.cells = A.cells + mc ∧ B.slots = A.slots + ms
def vx_Back (l : Launch) (R : Room) (p : Program) (e : Env) (below : List Frame) (s : State) (sargs : Array Value) (y : MethodName) (len W9 : Nat)
    (Pre : Pt → Array Value → Prop) (Post : Pt → Array Value → Option Value → Pt → Prop) (PostX : Pt → Array Value → Addr → Pt → Prop) : Prop :=
  ∀ (m : MethodId) (meth : Method) (c : Code) (A : Pt) (g : JFrame) (ig : Instr) (mk : MethodId) (a : Array Value),
    Stand p l e R s m sargs below meth c A.U A.locs A.cells A.slots → g.method = m → g.locals.size = c.maxLocals → decode c.code g.pc = .ok (ig, len) →
    2 * g.monitorRoom + (g.stack.map fun v => v.category).sum ≤ W9 → A.U.methodNamed? y = some mk → Pre A a →
    (∃ (v : Option Value) (B : Pt), Stand p l e R s m sargs below meth c B.U B.locs B.cells B.slots ∧ Post A a v B ∧
      Steps p.tables e below (doInvoke e (A.U.setTop g) [] mk a).1 (B.U.setTop { g with pc := g.pc + len, stack := v.toList ++ g.stack })) ∨
    (∃ (q : Addr) (B : Pt), Stand p l e R s m sargs below meth c B.U B.locs B.cells B.slots ∧ PostX A a q B ∧
      Steps p.tables e below (doInvoke e (A.U.setTop g) [] mk a).1 ((B.U.setTop g).pushFrame (.throwing q)))
section Payer
variable {l : Launch} {R : Room} {p : Program} {e : Env} {below : List Frame} {s : State} {sargs : Array Value} {y : MethodName} {len W9 : Nat}
theorem vx_back {ws : List Cond} {rm : Room} {Pc : Array Value → State → Prop} {Qc : Array Value → State → Outcome → State → Prop} {XC : String → State → State → Prop} {mc ms : Nat} {free : Addr → Prop} {bytes : ByteArray} {maxL : Nat} {ret : Option FieldType}
    (hM : vx_Met l y ws rm Pc Qc XC mc ms free) (hblind : FrameBlind Pc) (hrc : rm.cells = mc) (hrs : rm.slots = ms)
    (hframes : rm.frames + 1 ≤ R.frames) (hlocals : W9 + (maxL + 11) + rm.locals ≤ R.locals)
    (hws : ∀ w ∈ ws, ∀ a' U, s.WarmedH U.vm → w.before a' U = true) (hcode : Cond.code y bytes maxL ret ∈ ws) (hinit : ∀ a' U, s.WarmedH U.vm → (Cond.initialized y.cls).before a' U = true) :
    vx_Back l R p e below s sargs y len W9 (PreOf R mc ms Pc) (PostOf Qc mc ms free) (vx_Post XC mc ms free) := by
  intro m meth c A g ig mk a X hg hsize hdg hW hn hp
  have h1 : (headSpec ws rm).pre.before a A.U = true := atoms_intro fun w hw => hws w hw _ _ X.warmed
  have h2 : (Cond.code y bytes maxL ret).before a A.U = true := hws _ hcode _ _ X.warmed
  have h3 : (Cond.initialized y.cls).before a A.U = true := hinit _ _ X.warmed
  have h4 : A.cells + (headSpec ws rm).room.cells ≤ R.cells := by rw [show (headSpec ws rm).room.cells = mc from hrc]; exact hp.1
  have h5 : A.slots + (headSpec ws rm).room.slots ≤ R.slots := by rw [show (headSpec ws rm).room.slots = ms from hrs]; exact hp.2.1
  have hPc : Pc a (A.U.calling g mk a) := hblind _ _ _ _ hp.2.2
  obtain ⟨U, Ls, c0, s0⟩ := A
  dsimp only [Pt.U, Pt.locs, Pt.cells, Pt.slots] at h1 h2 h3 h4 h5 X hn hPc ⊢
  obtain ⟨methY, cY, hmY, hcY, -, hlY, -, -, -, -⟩ := Cond.code_spec hn h2
  obtain ⟨kY, hkY, -⟩ := className_of_methodNamed hn
  have hinitY : kY.init = .initialized := Cond.initialized_spec (findClass_of_methodNamed hn) hkY h3
  have h : At U g.method c below := by rw [hg]; exact X.here
  have hlocals9 : W9 + (maxL + 11) + (headSpec ws rm).room.locals ≤ R.locals := hlocals
  have happ : (headSpec ws rm).appliesLoose y e.platform (U.calling g mk a) = true :=
    Spec.appliesLoose_calling (g := g) h hdg hn hkY hinitY
      (X.room_calling (g := g) (R' := (headSpec ws rm).room) hsize hmY hcY hframes (by rw [hlY]; omega) h4 h5) h1
  obtain ⟨mid, hmid⟩ := h.above
  have hfr : (U.setTop g).frames = (.java g :: mid) ++ below := by rw [State.frames_setTop' g h.top, hmid]; rfl
  obtain ⟨o, s₂, hsteps, -, hend, hq⟩ := Steps.callFree hM p X.admits X.cas X.clock (acts := []) hfr happ hPc trivial
  have hq' : vx_Q Qc XC mc ms free a (U.calling g mk a) o s₂ := hq
  rw [State.frames_setTop' g h.top] at hend
  obtain ⟨g₀, hg0⟩ := Option.isSome_iff_exists.mp h.top
  obtain ⟨r, hr⟩ := State.topJava?_eq_some.mp hg0
  have hr' : (({ U with heap := s₂.heap, slotsUsed := s₂.slotsUsed } : State).setVm s₂.vm).frames = .java g₀ :: r := hr
  rcases hq' with ⟨hqc, L, hfe, hL⟩ | ⟨q, rfl, E, ce, L, hx, hce, hcv, hcl, hW₂, hsm, hL⟩
  · obtain ⟨⟨v, rfl⟩, hW₂, e2, q2, q3, q4, q5, q6⟩ := id hfe
    have e3 : s₂ = ({ (U.calling g mk a).setFrames s₂.frames with heap := s₂.heap, slotsUsed := s₂.slotsUsed } : State).setVm s₂.vm := by
      have : s₂ = ({ s₂ with vm := (U.calling g mk a).vm } : State).setVm s₂.vm := rfl
      rw [e2] at this
      exact this
    obtain ⟨c₂, i₂, len₂, hc₂, hd₂, hf₂⟩ := hend
    have hW' : U.WarmedH s₂.vm := hW₂
    have hcc : c₂ = c := by
      have h1 : s₂.code? g.method = U.code? g.method := by
        rw [State.code?_eq, State.code?_eq, hW'.alike.method?]
      exact Option.some.inj (hc₂.symm.trans (h1.trans h.code))
    subst hcc
    have hlen : len₂ = len := by rw [hdg] at hd₂; cases hd₂; rfl
    subst hlen
    have hs₂ : s₂ = (({ U with heap := s₂.heap, slotsUsed := s₂.slotsUsed } : State).setVm s₂.vm).setTop { g with pc := g.pc + len₂, stack := v.toList ++ g.stack } := by
      refine e3.trans ?_
      rw [hf₂, State.calling_eq h.top, State.setFrames_setFrames, State.setTop_of_frames _ hr', hr]
      rfl
    have hsame : U.sameButNew ({ U with heap := s₂.heap, slotsUsed := s₂.slotsUsed } : State) L mc ms := by
      refine ⟨?_, q2, q3, q4, q5, q6⟩
      obtain ⟨t, ht, -⟩ := State.frames_cons hr
      show ({ U with heap := s₂.heap, slotsUsed := s₂.slotsUsed } : State) = { U.setFrames U.frames with heap := s₂.heap, slotsUsed := s₂.slotsUsed }
      rw [State.setFrames_self ht]
    subst hg
    refine Or.inl ⟨v, ⟨(({ U with heap := s₂.heap, slotsUsed := s₂.slotsUsed } : State).setVm s₂.vm), Ls ++ L, c0 + mc, s0 + ms⟩,
      ⟨X.admits, X.cas, X.clock, X.frames, X.room, X.hears, X.method, X.code, (X.here.setHeapUsed s₂.heap s₂.slotsUsed).setVm hW'.alike, X.tail, State.WarmedH.trans X.warmed hW', X.limits, X.bytes, X.same.trans (hsame.setVm s.vm)⟩,
      ⟨g, mk, s₂, L, rfl, rfl, hqc, rfl, hL, rfl, rfl⟩, ?_⟩
    show Steps p.tables e below _ ((({ U with heap := s₂.heap, slotsUsed := s₂.slotsUsed } : State).setVm s₂.vm).setTop { g with pc := g.pc + len₂, stack := v.toList ++ g.stack })
    rw [← hs₂]
    exact hsteps
  · obtain ⟨e2, q2, q3, q4, q5, q6⟩ := id hsm
    have e3 : s₂ = ({ (U.calling g mk a).setFrames s₂.frames with heap := s₂.heap, slotsUsed := s₂.slotsUsed } : State).setVm s₂.vm := by
      have : s₂ = ({ s₂ with vm := (U.calling g mk a).vm } : State).setVm s₂.vm := rfl
      rw [e2] at this
      exact this
    have hf₂ : s₂.frames = .throwing q :: .java g :: U.frames.tail := hend
    have hW' : U.WarmedH s₂.vm := hW₂
    have hs₂ : s₂ = ((({ U with heap := s₂.heap, slotsUsed := s₂.slotsUsed } : State).setVm s₂.vm).setTop g).pushFrame (.throwing q) := by
      refine e3.trans ?_
      rw [hf₂, State.calling_eq h.top, State.setFrames_setFrames, State.pushFrame, State.frames_setTop _ hr', State.setTop_of_frames _ hr', State.setFrames_setFrames, hr]
      rfl
    have hsame : U.sameButNew ({ U with heap := s₂.heap, slotsUsed := s₂.slotsUsed } : State) L mc ms := by
      refine ⟨?_, q2, q3, q4, q5, q6⟩
      obtain ⟨t, ht, -⟩ := State.frames_cons hr
      show ({ U with heap := s₂.heap, slotsUsed := s₂.slotsUsed } : State) = { U.setFrames U.frames with heap := s₂.heap, slotsUsed := s₂.slotsUsed }
      rw [State.setFrames_self ht]
    subst hg
    refine Or.inr ⟨q, ⟨(({ U with heap := s₂.heap, slotsUsed := s₂.slotsUsed } : State).setVm s₂.vm), Ls ++ L, c0 + mc, s0 + ms⟩,
      ⟨X.admits, X.cas, X.clock, X.frames, X.room, X.hears, X.method, X.code, (X.here.setHeapUsed s₂.heap s₂.slotsUsed).setVm hW'.alike, X.tail, State.WarmedH.trans X.warmed hW', X.limits, X.bytes, X.same.trans (hsame.setVm s.vm)⟩,
      ⟨g, mk, s₂, L, E, ce, rfl, rfl, hx, hce, hcv, hcl, rfl, hL, rfl, rfl⟩, ?_⟩
    show Steps p.tables e below _ (((({ U with heap := s₂.heap, slotsUsed := s₂.slotsUsed } : State).setVm s₂.vm).setTop g).pushFrame (.throwing q))
    rw [← hs₂]
    exact hsteps
end Payer
section Calls
variable {p : Program} {l : Launch} {e : Env} {R : Room} {s : State} {m : MethodId} {args : Array Value} {below : List Frame} {meth : Method} {c : Code} {T : State} {locs : List Loc} {cells slots : Nat}
theorem vx_callV (X : Stand p l e R s m args below meth c T locs cells slots) (hexec : p.tables.exec = Jvm.exec) {own C : String} {index : Nat} {y : MethodName} {bytes : ByteArray} {maxL : Nat} {ret : Option FieldType}
    (hown : s.vm.findClass own = some m.cls) (hlink : (Cond.methodLink own index y).before args s = true) (hinst : (Cond.instanceMethod y).before args s = true) (hsel : (Cond.selects C y y).before args s = true)
    (hcode : (Cond.code y bytes maxL ret).before args s = true) (hy : y.cls ≠ "java/lang/invoke/MethodHandle" ∧ y.cls ≠ "java/lang/invoke/VarHandle")
    {W9 : Nat} {Pre : Pt → Array Value → Prop} {Post : Pt → Array Value → Option Value → Pt → Prop} {PostX : Pt → Array Value → Addr → Pt → Prop} (hK : vx_Back l R p e below s args y 3 W9 Pre Post PostX)
    {b : Addr} {cellB : Cell} (hcell : T.heap[b]? = some cellB) (hobj : cellB.vm.isStatics = false) (hcls : s.vm.findClass C = some cellB.cls)
    {g : JFrame} (hg : g.method = m) (hsize : g.locals.size = c.maxLocals) {argsL rest : List Value} (hlen : ∀ sig, parseMethodDescriptor y.desc = some sig → argsL.length = sig.parameters.length)
    (hstack : g.stack = argsL.reverse ++ .ref b :: rest) (hW : 2 * g.monitorRoom + (rest.map fun v => v.category).sum ≤ W9) (hdg : decode c.code g.pc = .ok (.invokevirtual index, 3))
    (hpre : ∀ vm₁, s.WarmedH vm₁ → Pre ⟨T.setVm vm₁, locs, cells, slots⟩ (Value.ref b :: argsL).toArray) :
    (∃ (v : Option Value) (vm₁ : Vm) (B : Pt), s.WarmedH vm₁ ∧ Stand p l e R s m args below meth c B.U B.locs B.cells B.slots ∧ Post ⟨T.setVm vm₁, locs, cells, slots⟩ (Value.ref b :: argsL).toArray v B ∧
      ∀ target, Steps p.tables e below (B.U.setTop { g with pc := g.pc + 3, stack := v.toList ++ rest }) target → Steps p.tables e below (T.setTop g) target) ∨
    (∃ (q : Addr) (vm₁ : Vm) (B : Pt), s.WarmedH vm₁ ∧ Stand p l e R s m args below meth c B.U B.locs B.cells B.slots ∧ PostX ⟨T.setVm vm₁, locs, cells, slots⟩ (Value.ref b :: argsL).toArray q B ∧
      Steps p.tables e below (T.setTop g) ((B.U.setTop { g with stack := rest }).pushFrame (.throwing q))) := by
  obtain ⟨mk, methM, hnamed, hmethM, hstM, habM⟩ := Cond.instanceMethod_spec hinst
  obtain ⟨methM', cM, hmethM', -, -, -, -, -, -, hsigM⟩ := Cond.code_spec hnamed hcode
  cases hmethM.symm.trans hmethM'
  obtain ⟨c2, r2, m2, q1, q2, q3, q4, kP, hkP, hkPi⟩ := Cond.selects_spec hsel
  cases hcls.symm.trans q1
  cases (State.methodFound?_of_named hnamed hy).symm.trans q2
  cases hnamed.symm.trans q3
  have hselP : selectMethod e.platform s.vm cellB.cls mk = .method mk := by rw [Launch.admits_selectMethod X.admits]; exact q4
  obtain ⟨vm₁, X₁, hstep₁⟩ := X.invokevirtual hexec hown hlink hnamed hmethM hstM hkP hkPi hy (a := b) (cell := cellB) hcell
    (fun z h => by rw [h] at hobj; cases hobj) hselP hmethM habM hkP hkPi (g := g) hg (argsL := argsL) (rest := rest) (hlen _ hsigM) hstack hdg
  rcases hK m meth c ⟨T.setVm vm₁, locs, cells, slots⟩ { g with stack := rest } (.invokevirtual index) mk (Value.ref b :: argsL).toArray X₁ hg hsize hdg hW (X₁.named hnamed) (hpre vm₁ X₁.warmed) with ⟨v, B, X', hpost, hsteps⟩ | ⟨q, B, X', hpost, hsteps⟩
  · exact Or.inl ⟨v, vm₁, B, X₁.warmed, X', hpost, fun target h => hstep₁ _ fun acts => by rw [doInvoke_state]; exact hsteps.trans h⟩
  · exact Or.inr ⟨q, vm₁, B, X₁.warmed, X', hpost, hstep₁ _ fun acts => by rw [doInvoke_state]; exact hsteps⟩
theorem vx_callS (X : Stand p l e R s m args below meth c T locs cells slots) (hexec : p.tables.exec = Jvm.exec) {own : String} {index : Nat} {y : MethodName} {bytes : ByteArray} {maxL : Nat} {ret : Option FieldType}
    (hown : s.vm.findClass own = some m.cls) (hlink : (Cond.methodLink own index y).before args s = true) (hstat : (Cond.static y).before args s = true) (hinit : (Cond.initialized y.cls).before args s = true)
    (hcode : (Cond.code y bytes maxL ret).before args s = true) (hy : y.cls ≠ "java/lang/invoke/MethodHandle" ∧ y.cls ≠ "java/lang/invoke/VarHandle")
    {W9 : Nat} {Pre : Pt → Array Value → Prop} {Post : Pt → Array Value → Option Value → Pt → Prop} {PostX : Pt → Array Value → Addr → Pt → Prop} (hK : vx_Back l R p e below s args y 3 W9 Pre Post PostX)
    {g : JFrame} (hg : g.method = m) (hsize : g.locals.size = c.maxLocals) {argsL rest : List Value} (hlen : ∀ sig, parseMethodDescriptor y.desc = some sig → argsL.length = sig.parameters.length)
    (hstack : g.stack = argsL.reverse ++ rest) (hW : 2 * g.monitorRoom + (rest.map fun v => v.category).sum ≤ W9) (hdg : decode c.code g.pc = .ok (.invokestatic index, 3))
    (hpre : ∀ vm₁, s.WarmedH vm₁ → Pre ⟨T.setVm vm₁, locs, cells, slots⟩ argsL.toArray) :
    (∃ (v : Option Value) (vm₁ : Vm) (B : Pt), s.WarmedH vm₁ ∧ Stand p l e R s m args below meth c B.U B.locs B.cells B.slots ∧ Post ⟨T.setVm vm₁, locs, cells, slots⟩ argsL.toArray v B ∧
      ∀ target, Steps p.tables e below (B.U.setTop { g with pc := g.pc + 3, stack := v.toList ++ rest }) target → Steps p.tables e below (T.setTop g) target) ∨
    (∃ (q : Addr) (vm₁ : Vm) (B : Pt), s.WarmedH vm₁ ∧ Stand p l e R s m args below meth c B.U B.locs B.cells B.slots ∧ PostX ⟨T.setVm vm₁, locs, cells, slots⟩ argsL.toArray q B ∧
      Steps p.tables e below (T.setTop g) ((B.U.setTop { g with stack := rest }).pushFrame (.throwing q))) := by
  obtain ⟨mk, hnamed⟩ := Cond.code_named hcode
  obtain ⟨methM, cM, hmethM, -, -, -, -, -, -, hsigM⟩ := Cond.code_spec hnamed hcode
  have hstatic : methM.isStatic = true := Cond.static_spec hnamed hmethM hstat
  obtain ⟨kP, hkP, -⟩ := className_of_methodNamed hnamed
  have hinitP : kP.init = .initialized := Cond.initialized_spec (findClass_of_methodNamed hnamed) hkP hinit
  obtain ⟨vm₁, X₁, hstep₁⟩ := X.invokestatic hexec hown hlink hnamed hmethM hstatic hkP hinitP hy (g := g) hg (argsL := argsL) (rest := rest) (hlen _ hsigM) hstack hdg
  rcases hK m meth c ⟨T.setVm vm₁, locs, cells, slots⟩ { g with stack := rest } (.invokestatic index) mk argsL.toArray X₁ hg hsize hdg hW (X₁.named hnamed) (hpre vm₁ X₁.warmed) with ⟨v, B, X', hpost, hsteps⟩ | ⟨q, B, X', hpost, hsteps⟩
  · exact Or.inl ⟨v, vm₁, B, X₁.warmed, X', hpost, fun target h => hstep₁ _ fun acts => by rw [doInvoke_state]; exact hsteps.trans h⟩
  · exact Or.inr ⟨q, vm₁, B, X₁.warmed, X', hpost, hstep₁ _ fun acts => by rw [doInvoke_state]; exact hsteps⟩
end Calls
theorem vx_cls {s : State} {T : State} {vm₁ : Vm} {E : String} {k : ClassId} (hW : s.WarmedH vm₁) (h : (T.setVm vm₁).vm.findClass E = some k) : s.vm.findClass E = some k := by
  have h1 : vm₁.findClass E = some k := h
  rw [hW.alike.findClass] at h1
  exact h1
/-- the method's frame g, with q thrown over it -/
def vx_W (p : Program) (l : Launch) (e : Env) (R : Room) (s : State) (m : MethodId) (args : Array Value) (below : List Frame) (meth : Method) (c : Code) (H : Heap) (locs : List Loc) (cells slots : Nat) (Q : State → Prop) (g : JFrame) (q : Addr) : Prop :=
  ∀ T : State, T.heap = H → Stand p l e R s m args below meth c T locs cells slots → ∃ t, Steps p.tables e below ((T.setTop g).pushFrame (.throwing q)) t ∧ Q t
def vx_Run (p : Program) (l : Launch) (e : Env) (R : Room) (s : State) (m : MethodId) (args : Array Value) (below : List Frame) (meth : Method) (c : Code) (H : Heap) (locs : List Loc) (cells slots mc ms : Nat) (g : JFrame) (rest : List Value) (Qa : State → Outcome → State → Prop) (XC : String → State → State → Prop) (free : Addr → Prop) : Prop :=
  ∀ T : State, T.heap = H → Stand p l e R s m args below meth c T locs cells slots →
    (∃ (v : Option Value) (st₀ t T' : State) (L : List Loc), st₀.heap = H ∧ Stand p l e R s m args below meth c T' (locs ++ L) (cells + mc) (slots + ms) ∧ (∀ q ∈ L, free q.base) ∧ T'.heap = t.heap ∧ T'.vm = t.vm ∧ Qa st₀ (.returned v) t ∧
      Goes p e below T g T' { g with pc := g.pc + 3, stack := v.toList ++ rest }) ∨
    (∃ (q : Addr) (st₀ t T' : State) (L : List Loc) (E : String) (ce : Cell), st₀.heap = H ∧ Stand p l e R s m args below meth c T' (locs ++ L) (cells + mc) (slots + ms) ∧ (∀ z ∈ L, free z.base) ∧ T'.heap = t.heap ∧ T'.vm = t.vm ∧ XC E st₀ t ∧ t.heap[q]? = some ce ∧ ce.vm = .none ∧ s.vm.findClass E = some ce.cls ∧
      Steps p.tables e below (T.setTop g) ((T'.setTop { g with stack := rest }).pushFrame (.throwing q)))
def vx_X {S : Type} (px : S → Prop) (B : String → S → State → Prop) (A : Nat → Prop) : String → State → State → Prop := fun E st t => ∃ u : S, px u ∧ B E u t ∧ va_F A st t
section Runs
variable {p : Program} {l : Launch} {e : Env} {R : Room} {s : State} {m : MethodId} {args : Array Value} {below : List Frame} {meth : Method} {c : Code} {H : Heap} {locs : List Loc} {cells slots : Nat}
variable {y : MethodName} {bytes cc : ByteArray} {maxL nL mc ms n index : Nat} {ret : Option FieldType} {ws : List Cond} {rm : Room} {Pc : Array Value → State → Prop} {Qc : Array Value → State → Outcome → State → Prop} {XC : String → State → State → Prop} {free : Addr → Prop} {Ts : List Cond} {own C : String} {b : Addr} {As rest : List Value} {g : JFrame}
theorem vx_callBack (cb : CallB R s args own index y bytes maxL ret ws rm mc ms n) (hM : vx_Met l y ws rm Pc Qc XC mc ms free) (hbl : FrameBlind Pc) : vx_Back l R p e below s args y 3 8 (PreOf R mc ms Pc) (PostOf Qc mc ms free) (vx_Post XC mc ms free) := by
  obtain ⟨hrc, hrs, hfr, hlo, hws, hcw, -, hini, -⟩ := cb
  exact vx_back (bytes := bytes) (maxL := maxL) (ret := ret) hM hbl hrc hrs hfr hlo hws hcw (fun a' U hW => word_at hW (Or.inl (by first | rfl | simp [Cond.onTables, Cond.keeps, Cond.steady])) hini)
theorem vx_runV (S : CallFix p m c cc nL s args Ts own) (hM : vx_Met l y ws rm Pc Qc XC mc ms free) (cw : CallW R s args own C index y bytes maxL ret ws rm mc ms n) (hp : PreV s H C b Pc As)
    (hg : g.method = m) (hn : As.length = n) (hsize : g.locals.size = nL) (hstack : g.stack = As.reverse ++ .ref b :: rest) (hW : 2 * g.monitorRoom + (rest.map fun v => v.category).sum ≤ 8) (hdg : decode cc g.pc = .ok (.invokevirtual index, 3)) (hf : cells + mc ≤ R.cells ∧ slots + ms ≤ R.slots) :
    vx_Run p l e R s m args below meth c H locs cells slots mc ms g rest (Qc (Value.ref b :: As).toArray) XC free := by
  have hK : vx_Back l R p e below s args y 3 8 (PreOf R mc ms Pc) (PostOf Qc mc ms free) (vx_Post XC mc ms free) := vx_callBack cw.1 hM hp.1
  obtain ⟨⟨-, -, -, -, -, -, hcode, -, hy, hlen, hl⟩, hin, hse⟩ := cw
  obtain ⟨hx, hb, hml, ho, -⟩ := S
  obtain ⟨-, ⟨cellB, hcB, hoB, hclB⟩, hPc⟩ := hp
  intro T hT X
  rcases vx_callV X hx (C := C) (bytes := bytes) (maxL := maxL) (ret := ret) ho hl hin hse hcode hy hK (by rw [hT]; exact hcB) hoB hclB hg (hsize.trans hml.symm) (argsL := As) (rest := rest) (fun sig h => hn.trans (hlen sig h)) hstack hW (by rw [hb]; exact hdg)
    (fun vm₁ hW₁ => ⟨hf.1, hf.2, hPc (T.setVm vm₁) hT hW₁⟩) with ⟨v, vm₁, ⟨U', l2, c2, s2⟩, hW₁, X', ⟨g', mk, t, L, e1, e2, hq, h1, hL, h2, h3⟩, st⟩ | ⟨q, vm₁, ⟨U', l2, c2, s2⟩, hW₁, X', ⟨g', mk, t, L, E, ce, e1, e2, hq, hce, hcv, hcl, h1, hL, h2, h3⟩, st⟩
  · dsimp only [Pt.U, Pt.locs, Pt.cells, Pt.slots] at X' e1 e2 h1 h2 h3 st
    subst h1; subst h2; subst h3
    exact Or.inl ⟨v, (T.setVm vm₁).calling g' mk (Value.ref b :: As).toArray, t, U', L, hT, X', hL, e1, e2, hq, st⟩
  · dsimp only [Pt.U, Pt.locs, Pt.cells, Pt.slots] at X' e1 e2 h1 h2 h3 st hcl
    subst h1; subst h2; subst h3
    exact Or.inr ⟨q, (T.setVm vm₁).calling g' mk (Value.ref b :: As).toArray, t, U', L, E, ce, hT, X', hL, e1, e2, hq, hce, hcv, vx_cls hW₁ hcl, st⟩
theorem vx_runS (S : CallFix p m c cc nL s args Ts own) (hM : vx_Met l y ws rm Pc Qc XC mc ms free) (cw : CallB R s args own index y bytes maxL ret ws rm mc ms n ∧ (Cond.static y).before args s = true) (hp : PreS s H Pc As)
    (hg : g.method = m) (hn : As.length = n) (hsize : g.locals.size = nL) (hstack : g.stack = As.reverse ++ rest) (hW : 2 * g.monitorRoom + (rest.map fun v => v.category).sum ≤ 8) (hdg : decode cc g.pc = .ok (.invokestatic index, 3)) (hf : cells + mc ≤ R.cells ∧ slots + ms ≤ R.slots) :
    vx_Run p l e R s m args below meth c H locs cells slots mc ms g rest (Qc As.toArray) XC free := by
  have hK : vx_Back l R p e below s args y 3 8 (PreOf R mc ms Pc) (PostOf Qc mc ms free) (vx_Post XC mc ms free) := vx_callBack cw.1 hM hp.1
  obtain ⟨⟨-, -, -, -, -, -, hcode, hini, hy, hlen, hl⟩, hstt⟩ := cw
  obtain ⟨hx, hb, hml, ho, -⟩ := S
  intro T hT X
  rcases vx_callS X hx (bytes := bytes) (maxL := maxL) (ret := ret) ho hl hstt hini hcode hy hK hg (hsize.trans hml.symm) (argsL := As) (rest := rest) (fun sig h => hn.trans (hlen sig h)) hstack hW (by rw [hb]; exact hdg)
    (fun vm₁ hW₁ => ⟨hf.1, hf.2, hp.2 (T.setVm vm₁) hT hW₁⟩) with ⟨v, vm₁, ⟨U', l2, c2, s2⟩, hW₁, X', ⟨g', mk, t, L, e1, e2, hq, h1, hL, h2, h3⟩, st⟩ | ⟨q, vm₁, ⟨U', l2, c2, s2⟩, hW₁, X', ⟨g', mk, t, L, E, ce, e1, e2, hq, hce, hcv, hcl, h1, hL, h2, h3⟩, st⟩
  · dsimp only [Pt.U, Pt.locs, Pt.cells, Pt.slots] at X' e1 e2 h1 h2 h3 st
    subst h1; subst h2; subst h3
    exact Or.inl ⟨v, (T.setVm vm₁).calling g' mk As.toArray, t, U', L, hT, X', hL, e1, e2, hq, st⟩
  · dsimp only [Pt.U, Pt.locs, Pt.cells, Pt.slots] at X' e1 e2 h1 h2 h3 st hcl
    subst h1; subst h2; subst h3
    exact Or.inr ⟨q, (T.setVm vm₁).calling g' mk As.toArray, t, U', L, E, ce, hT, X', hL, e1, e2, hq, hce, hcv, vx_cls hW₁ hcl, st⟩
end Runs
section Rows
variable {p : Program} {l : Launch} {e : Env} {R : Room} {s : State} {m : MethodId} {args : Array Value} {below : List Frame} {meth : Method} {c : Code} {H : Heap} {locs : List Loc} {cells slots : Nat} {Q : State → Prop}
variable {mc ms : Nat} {free : Addr → Prop} {A0 A1 : Nat → Prop} {H0 : Heap} {a : Array Value} {pc : Nat} {ls : Array Slot} {st0 rest : List Value}
theorem vx_keep {st₀ t T' : State} {L : List Loc} (h0 : st₀.heap = H) (e1 : T'.heap = t.heap) (hS : va_S A0 H0 H locs) (hA : ∀ q, q < H.size → A1 q → A0 q) (hf : ∀ q, free q → A0 q) (hL : ∀ q ∈ L, free q.base) (hF : va_F A1 st₀ t) :
    H.size ≤ T'.heap.size ∧ (∀ q : Nat, q < H.size → ¬ A1 q → T'.heap[q]? = H[q]?) ∧ va_S A0 H0 T'.heap (locs ++ L) := by
  obtain ⟨hz, hk⟩ := hF
  rw [h0] at hz hk
  exact ⟨by rw [e1]; exact hz, fun q h1 h2 => by rw [e1]; exact hk q h1 h2,
    ⟨Nat.le_trans hS.1 (by rw [e1]; exact hz), fun q h1 h2 => by rw [e1, hk q (Nat.lt_of_lt_of_le h1 hS.1) (fun z => h2 (hA q (Nat.lt_of_lt_of_le h1 hS.1) z))]; exact hS.2.1 q h1 h2, fun q hq => by
      rcases List.mem_append.mp hq with h | h
      · exact hS.2.2 q h
      · exact hf _ (hL q h)⟩⟩
theorem vx_calli {S SX : Type} {post : Int32 → S → Prop} {px : SX → Prop} {B : S → State → Prop} {BX : String → SX → State → Prop} {AX : Nat → Prop} (hr : vx_Run p l e R s m args below meth c H locs cells slots mc ms (F0 m pc ls st0) rest (va_Qi post B A1 a) (vx_X px BX AX) free) (hS : va_S A0 H0 H locs) (hA : ∀ q, q < H.size → A1 q → A0 q) (hf : ∀ q, free q → A0 q) (hAX : ∀ q, q < H.size → AX q → A0 q)
    (kx : ∀ (E : String) (ce : Cell) (q9 : Addr) (u : SX) (t : State) (H1 : Heap) (locs1 : List Loc), t.heap = H1 → s.vm.Alike t.vm → px u → BX E u t → H.size ≤ H1.size → (∀ q : Nat, q < H.size → ¬ AX q → H1[q]? = H[q]?) → va_S A0 H0 H1 locs1 → H1[q9]? = some ce → ce.vm = .none → s.vm.findClass E = some ce.cls → vx_W p l e R s m args below meth c H1 locs1 (cells + mc) (slots + ms) Q (F0 m pc ls rest) q9)
    (kk : ∀ (r : Int32) (u : S) (t : State) (H1 : Heap) (locs1 : List Loc), t.heap = H1 → s.vm.Alike t.vm → post r u → B u t → H.size ≤ H1.size → (∀ q : Nat, q < H.size → ¬ A1 q → H1[q]? = H[q]?) → va_S A0 H0 H1 locs1 → W p l e R s m args below meth c H1 locs1 (cells + mc) (slots + ms) Q (F0 m (pc + 3) ls (.int r :: rest))) : W p l e R s m args below meth c H locs cells slots Q (F0 m pc ls st0) := by
  intro T hT X
  rcases hr T hT X with ⟨v, st₀, t, T', L, h0, X', hL, e1, e2, ⟨⟨r, u, hv, hp, hb⟩, hF⟩, st⟩ | ⟨q, st₀, t, T', L, E, ce, h0, X', hL, e1, e2, ⟨u, hp, hb, hF⟩, hce, hcv, hcl, st⟩
  · cases hv
    obtain ⟨k1, k2, k3⟩ := vx_keep h0 e1 hS hA hf hL hF
    obtain ⟨t2, a1, b1⟩ := kk r u t T'.heap (locs ++ L) e1.symm (by rw [← e2]; exact X'.warmed.alike) hp hb k1 k2 k3 T' rfl X'
    exact ⟨t2, st t2 a1, b1⟩
  · obtain ⟨k1, k2, k3⟩ := vx_keep h0 e1 hS hAX hf hL hF
    obtain ⟨t2, a1, b1⟩ := kx E ce q u t T'.heap (locs ++ L) e1.symm (by rw [← e2]; exact X'.warmed.alike) hp hb k1 k2 k3 (by rw [e1]; exact hce) hcv hcl T' rfl X'
    exact ⟨t2, st.trans a1, b1⟩
theorem vx_calll {S SX : Type} {post : Int64 → S → Prop} {px : SX → Prop} {B : S → State → Prop} {BX : String → SX → State → Prop} {AX : Nat → Prop} (hr : vx_Run p l e R s m args below meth c H locs cells slots mc ms (F0 m pc ls st0) rest (va_Ql post B A1 a) (vx_X px BX AX) free) (hS : va_S A0 H0 H locs) (hA : ∀ q, q < H.size → A1 q → A0 q) (hf : ∀ q, free q → A0 q) (hAX : ∀ q, q < H.size → AX q → A0 q)
    (kx : ∀ (E : String) (ce : Cell) (q9 : Addr) (u : SX) (t : State) (H1 : Heap) (locs1 : List Loc), t.heap = H1 → s.vm.Alike t.vm → px u → BX E u t → H.size ≤ H1.size → (∀ q : Nat, q < H.size → ¬ AX q → H1[q]? = H[q]?) → va_S A0 H0 H1 locs1 → H1[q9]? = some ce → ce.vm = .none → s.vm.findClass E = some ce.cls → vx_W p l e R s m args below meth c H1 locs1 (cells + mc) (slots + ms) Q (F0 m pc ls rest) q9)
    (kk : ∀ (r : Int64) (u : S) (t : State) (H1 : Heap) (locs1 : List Loc), t.heap = H1 → s.vm.Alike t.vm → post r u → B u t → H.size ≤ H1.size → (∀ q : Nat, q < H.size → ¬ A1 q → H1[q]? = H[q]?) → va_S A0 H0 H1 locs1 → W p l e R s m args below meth c H1 locs1 (cells + mc) (slots + ms) Q (F0 m (pc + 3) ls (.long r :: rest))) : W p l e R s m args below meth c H locs cells slots Q (F0 m pc ls st0) := by
  intro T hT X
  rcases hr T hT X with ⟨v, st₀, t, T', L, h0, X', hL, e1, e2, ⟨⟨r, u, hv, hp, hb⟩, hF⟩, st⟩ | ⟨q, st₀, t, T', L, E, ce, h0, X', hL, e1, e2, ⟨u, hp, hb, hF⟩, hce, hcv, hcl, st⟩
  · cases hv
    obtain ⟨k1, k2, k3⟩ := vx_keep h0 e1 hS hA hf hL hF
    obtain ⟨t2, a1, b1⟩ := kk r u t T'.heap (locs ++ L) e1.symm (by rw [← e2]; exact X'.warmed.alike) hp hb k1 k2 k3 T' rfl X'
    exact ⟨t2, st t2 a1, b1⟩
  · obtain ⟨k1, k2, k3⟩ := vx_keep h0 e1 hS hAX hf hL hF
    obtain ⟨t2, a1, b1⟩ := kx E ce q u t T'.heap (locs ++ L) e1.symm (by rw [← e2]; exact X'.warmed.alike) hp hb k1 k2 k3 (by rw [e1]; exact hce) hcv hcl T' rfl X'
    exact ⟨t2, st.trans a1, b1⟩
theorem vx_callf {S SX : Type} {post : UInt32 → S → Prop} {px : SX → Prop} {B : S → State → Prop} {BX : String → SX → State → Prop} {AX : Nat → Prop} (hr : vx_Run p l e R s m args below meth c H locs cells slots mc ms (F0 m pc ls st0) rest (va_Qf post B A1 a) (vx_X px BX AX) free) (hS : va_S A0 H0 H locs) (hA : ∀ q, q < H.size → A1 q → A0 q) (hf : ∀ q, free q → A0 q) (hAX : ∀ q, q < H.size → AX q → A0 q)
    (kx : ∀ (E : String) (ce : Cell) (q9 : Addr) (u : SX) (t : State) (H1 : Heap) (locs1 : List Loc), t.heap = H1 → s.vm.Alike t.vm → px u → BX E u t → H.size ≤ H1.size → (∀ q : Nat, q < H.size → ¬ AX q → H1[q]? = H[q]?) → va_S A0 H0 H1 locs1 → H1[q9]? = some ce → ce.vm = .none → s.vm.findClass E = some ce.cls → vx_W p l e R s m args below meth c H1 locs1 (cells + mc) (slots + ms) Q (F0 m pc ls rest) q9)
    (kk : ∀ (r : UInt32) (u : S) (t : State) (H1 : Heap) (locs1 : List Loc), t.heap = H1 → s.vm.Alike t.vm → post r u → B u t → H.size ≤ H1.size → (∀ q : Nat, q < H.size → ¬ A1 q → H1[q]? = H[q]?) → va_S A0 H0 H1 locs1 → W p l e R s m args below meth c H1 locs1 (cells + mc) (slots + ms) Q (F0 m (pc + 3) ls (.float r :: rest))) : W p l e R s m args below meth c H locs cells slots Q (F0 m pc ls st0) := by
  intro T hT X
  rcases hr T hT X with ⟨v, st₀, t, T', L, h0, X', hL, e1, e2, ⟨⟨r, u, hv, hp, hb⟩, hF⟩, st⟩ | ⟨q, st₀, t, T', L, E, ce, h0, X', hL, e1, e2, ⟨u, hp, hb, hF⟩, hce, hcv, hcl, st⟩
  · cases hv
    obtain ⟨k1, k2, k3⟩ := vx_keep h0 e1 hS hA hf hL hF
    obtain ⟨t2, a1, b1⟩ := kk r u t T'.heap (locs ++ L) e1.symm (by rw [← e2]; exact X'.warmed.alike) hp hb k1 k2 k3 T' rfl X'
    exact ⟨t2, st t2 a1, b1⟩
  · obtain ⟨k1, k2, k3⟩ := vx_keep h0 e1 hS hAX hf hL hF
    obtain ⟨t2, a1, b1⟩ := kx E ce q u t T'.heap (locs ++ L) e1.symm (by rw [← e2]; exact X'.warmed.alike) hp hb k1 k2 k3 (by rw [e1]; exact hce) hcv hcl T' rfl X'
    exact ⟨t2, st.trans a1, b1⟩
theorem vx_calld {S SX : Type} {post : UInt64 → S → Prop} {px : SX → Prop} {B : S → State → Prop} {BX : String → SX → State → Prop} {AX : Nat → Prop} (hr : vx_Run p l e R s m args below meth c H locs cells slots mc ms (F0 m pc ls st0) rest (va_Qd post B A1 a) (vx_X px BX AX) free) (hS : va_S A0 H0 H locs) (hA : ∀ q, q < H.size → A1 q → A0 q) (hf : ∀ q, free q → A0 q) (hAX : ∀ q, q < H.size → AX q → A0 q)
    (kx : ∀ (E : String) (ce : Cell) (q9 : Addr) (u : SX) (t : State) (H1 : Heap) (locs1 : List Loc), t.heap = H1 → s.vm.Alike t.vm → px u → BX E u t → H.size ≤ H1.size → (∀ q : Nat, q < H.size → ¬ AX q → H1[q]? = H[q]?) → va_S A0 H0 H1 locs1 → H1[q9]? = some ce → ce.vm = .none → s.vm.findClass E = some ce.cls → vx_W p l e R s m args below meth c H1 locs1 (cells + mc) (slots + ms) Q (F0 m pc ls rest) q9)
    (kk : ∀ (r : UInt64) (u : S) (t : State) (H1 : Heap) (locs1 : List Loc), t.heap = H1 → s.vm.Alike t.vm → post r u → B u t → H.size ≤ H1.size → (∀ q : Nat, q < H.size → ¬ A1 q → H1[q]? = H[q]?) → va_S A0 H0 H1 locs1 → W p l e R s m args below meth c H1 locs1 (cells + mc) (slots + ms) Q (F0 m (pc + 3) ls (.double r :: rest))) : W p l e R s m args below meth c H locs cells slots Q (F0 m pc ls st0) := by
  intro T hT X
  rcases hr T hT X with ⟨v, st₀, t, T', L, h0, X', hL, e1, e2, ⟨⟨r, u, hv, hp, hb⟩, hF⟩, st⟩ | ⟨q, st₀, t, T', L, E, ce, h0, X', hL, e1, e2, ⟨u, hp, hb, hF⟩, hce, hcv, hcl, st⟩
  · cases hv
    obtain ⟨k1, k2, k3⟩ := vx_keep h0 e1 hS hA hf hL hF
    obtain ⟨t2, a1, b1⟩ := kk r u t T'.heap (locs ++ L) e1.symm (by rw [← e2]; exact X'.warmed.alike) hp hb k1 k2 k3 T' rfl X'
    exact ⟨t2, st t2 a1, b1⟩
  · obtain ⟨k1, k2, k3⟩ := vx_keep h0 e1 hS hAX hf hL hF
    obtain ⟨t2, a1, b1⟩ := kx E ce q u t T'.heap (locs ++ L) e1.symm (by rw [← e2]; exact X'.warmed.alike) hp hb k1 k2 k3 (by rw [e1]; exact hce) hcv hcl T' rfl X'
    exact ⟨t2, st.trans a1, b1⟩
theorem vx_callv {S SX : Type} {post : S → Prop} {px : SX → Prop} {B : S → State → Prop} {BX : String → SX → State → Prop} {AX : Nat → Prop} (hr : vx_Run p l e R s m args below meth c H locs cells slots mc ms (F0 m pc ls st0) rest (va_Qv post B A1 a) (vx_X px BX AX) free) (hS : va_S A0 H0 H locs) (hA : ∀ q, q < H.size → A1 q → A0 q) (hf : ∀ q, free q → A0 q) (hAX : ∀ q, q < H.size → AX q → A0 q)
    (kx : ∀ (E : String) (ce : Cell) (q9 : Addr) (u : SX) (t : State) (H1 : Heap) (locs1 : List Loc), t.heap = H1 → s.vm.Alike t.vm → px u → BX E u t → H.size ≤ H1.size → (∀ q : Nat, q < H.size → ¬ AX q → H1[q]? = H[q]?) → va_S A0 H0 H1 locs1 → H1[q9]? = some ce → ce.vm = .none → s.vm.findClass E = some ce.cls → vx_W p l e R s m args below meth c H1 locs1 (cells + mc) (slots + ms) Q (F0 m pc ls rest) q9)
    (kk : ∀ (u : S) (t : State) (H1 : Heap) (locs1 : List Loc), t.heap = H1 → s.vm.Alike t.vm → post u → B u t → H.size ≤ H1.size → (∀ q : Nat, q < H.size → ¬ A1 q → H1[q]? = H[q]?) → va_S A0 H0 H1 locs1 → W p l e R s m args below meth c H1 locs1 (cells + mc) (slots + ms) Q (F0 m (pc + 3) ls (rest))) : W p l e R s m args below meth c H locs cells slots Q (F0 m pc ls st0) := by
  intro T hT X
  rcases hr T hT X with ⟨v, st₀, t, T', L, h0, X', hL, e1, e2, ⟨⟨u, hv, hp, hb⟩, hF⟩, st⟩ | ⟨q, st₀, t, T', L, E, ce, h0, X', hL, e1, e2, ⟨u, hp, hb, hF⟩, hce, hcv, hcl, st⟩
  · cases hv
    obtain ⟨k1, k2, k3⟩ := vx_keep h0 e1 hS hA hf hL hF
    obtain ⟨t2, a1, b1⟩ := kk u t T'.heap (locs ++ L) e1.symm (by rw [← e2]; exact X'.warmed.alike) hp hb k1 k2 k3 T' rfl X'
    exact ⟨t2, st t2 a1, b1⟩
  · obtain ⟨k1, k2, k3⟩ := vx_keep h0 e1 hS hAX hf hL hF
    obtain ⟨t2, a1, b1⟩ := kx E ce q u t T'.heap (locs ++ L) e1.symm (by rw [← e2]; exact X'.warmed.alike) hp hb k1 k2 k3 (by rw [e1]; exact hce) hcv hcl T' rfl X'
    exact ⟨t2, st.trans a1, b1⟩
/-- caught by the row x of this method's table; the rows ahead don't take it -/
theorem vx_catch {own name : String} {E : String} {ce : Cell} {q : Addr} (hown : s.vm.findClass own = some m.cls) (pre : List ExceptionTableEntry) (x : ExceptionTableEntry) (suf : List ExceptionTableEntry) (hsplit : c.exceptionTable.toList = pre ++ x :: suf)
    (hpass : ∀ z ∈ pre, covers z pc = false ∨ (z.catchType ≠ 0 ∧ ∃ nm : String, (Cond.classLink own z.catchType nm).before args s = true ∧ va_Nc E nm s)) (hx : covers x pc = true) (h0 : x.catchType ≠ 0)
    (hlink : (Cond.classLink own x.catchType name).before args s = true) (hcast : (Cond.castable E name).before args s = true) (hcell : H[q]? = some ce) (hv : ce.vm = .none) (hcl : s.vm.findClass E = some ce.cls)
    (kk : W p l e R s m args below meth c H locs cells slots Q (F0 m x.handlerPc ls [.ref q])) : vx_W p l e R s m args below meth c H locs cells slots Q (F0 m pc ls rest) q := by
  intro T hT X
  have hpl : e.platform.magicAccessors = ({} : Platform).magicAccessors := by rw [X.admits.platform]
  obtain ⟨c3, c4, hc3, hc4, hasg⟩ := Cond.castable_spec hcast
  cases Option.some.inj (hc3.symm.trans hcl)
  obtain ⟨c5, hc5, hcl5⟩ := Cond.classLink_spec hown hlink e.platform hpl
  cases Option.some.inj (hc4.symm.trans hc5)
  obtain ⟨vm', X', st⟩ := X.thenCaughtThrough q (g := F0 m pc ls rest) rfl (Steps.refl _) (by rw [hT]; exact hcell) (by rw [hv]; rfl) (by obtain ⟨k9, h9, -⟩ := Vm.findClass_spec hcl; exact ⟨k9, h9⟩) pre x suf hsplit
    (fun z hz => by
      rcases hpass z hz with h | ⟨hz0, nm, hl1, hn1⟩
      · exact Or.inl h
      · obtain ⟨c6, hc6, hcl6⟩ := Cond.classLink_spec hown hl1 e.platform hpl
        obtain ⟨a8, b8, h1, h2, h3⟩ := hn1
        cases Option.some.inj (h1.symm.trans hcl)
        cases Option.some.inj (h2.symm.trans hc6)
        exact Or.inr ⟨hz0, _, hcl6, h3⟩) hx (Or.inr ⟨h0, c4, hcl5, hasg⟩)
  obtain ⟨t, a1, b1⟩ := kk (T.setVm vm') hT X'
  exact ⟨t, st.trans a1, b1⟩
end Rows
section Ends
variable {p : Program} {l : Launch} {e : Env} {R : Room} {s : State} {m : MethodId} {args : Array Value} {below : List Frame} {meth : Method} {c : Code} {H : Heap} {locs : List Loc} {cells slots : Nat} {Q : State → Prop}
variable {mc ms : Nat} {free : Addr → Prop} {A0 A1 : Nat → Prop} {H0 : Heap} {a : Array Value} {ls : Array Slot} {st0 rest : List Value}
variable {Qc : Array Value → State → Outcome → State → Prop} {XC : String → State → State → Prop}
/-- what a body that may throw owes at its end -/
def vx_MQ (below : List Frame) (Qc : Array Value → State → Outcome → State → Prop) (XC : String → State → State → Prop) (a : Array Value) (s : State) (mc ms : Nat) (free : Addr → Prop) : State → Prop := fun t =>
  ∃ o, t.status = .running ∧ Ended t below o ∧ vx_Q Qc XC mc ms free a s o t
theorem vx_ret {g : JFrame} {mc ms : Nat} (k : W p l e R s m args below meth c H locs cells slots (MQ below Qc args s mc ms free) g) : W p l e R s m args below meth c H locs cells slots (vx_MQ below Qc XC args s mc ms free) g := by
  intro T hT X
  obtain ⟨t, a1, o, b1, b2, b3, b4⟩ := k T hT X
  exact ⟨t, a1, o, b1, b2, Or.inl ⟨b3, b4⟩⟩
/-- not caught here: it goes on to the caller -/
theorem vx_widen {g : JFrame} {q : Addr} {k n : Nat} (h1 : cells ≤ k) (h2 : slots ≤ n) (kk : vx_W p l e R s m args below meth c H locs k n Q g q) : vx_W p l e R s m args below meth c H locs cells slots Q g q := fun T hT X => kk T hT (stand_widen X h1 h2)
theorem vx_out {pc : Nat} {E : String} {ce : Cell} {q : Addr} {mc ms : Nat} (hout : ∀ x ∈ c.exceptionTable.toList, covers x pc = false) (hlocks : meth.locks = false) (hcell : H[q]? = some ce) (hv : ce.vm = .none) (hcl : s.vm.findClass E = some ce.cls)
    (hx : ∀ t : State, t.heap = H → s.vm.Alike t.vm → XC E s t) (hf : ∀ z ∈ locs, free z.base) (hc : cells ≤ mc) (hs : slots ≤ ms) :
    vx_W p l e R s m args below meth c H locs cells slots (vx_MQ below Qc XC args s mc ms free) (F0 m pc ls rest) q := by
  intro T hT X
  obtain ⟨st1, hrun, hend, hW, hsm⟩ := X.leaveThrown q (g := F0 m pc ls rest) rfl rfl rfl hout hlocks
  have hcell9 : (T.setFrames (.throwing q :: below)).heap[q]? = some ce := by
    show T.heap[q]? = some ce
    rw [hT]; exact hcell
  exact ⟨_, st1, .threw q, hrun, hend, Or.inr ⟨q, rfl, E, ce, locs, hx _ hT hW.alike, hcell9, hv, hcl, hW, hsm.mono hc hs, hf⟩⟩
theorem vx_frame {U : State} {k n : Nat} (h : s.sameButNew ({ U with vm := s.vm } : State) locs k n) : s.heap.size ≤ U.heap.size ∧ ∀ q : Nat, q < s.heap.size → (∀ z ∈ locs, z.base ≠ q) → U.heap[q]? = s.heap[q]? := by
  obtain ⟨-, h2, -, -, -, h6⟩ := h
  refine ⟨h2, fun q hq hz => ?_⟩
  obtain ⟨c9, e1, e2, e3, e4⟩ := h6 q _ (Array.getElem?_eq_getElem hq)
  have hs : c9.slots = (s.heap[q]).slots := Array.ext_getElem? fun i => e4 i fun hm => hz _ hm rfl
  have h9 : c9 = s.heap[q] := by
    rw [hs] at e2
    exact e2
  have e5 : U.heap[q]? = some c9 := e1
  rw [e5, h9, Array.getElem?_eq_getElem hq]
/-- the words of a throw but the four that speak of the heap -/
def vx_no (w : Cond) : Bool := decide (w ≠ .isRef (.static Bundle.tN "UNASSIGNED_STACK" Bundle.steD)) && decide (w ≠ .isRef (.static Bundle.tN "SUPPRESSED_SENTINEL" Bundle.listD)) && decide (w ≠ .laysStatic Bundle.tN "UNASSIGNED_STACK" Bundle.steD) && decide (w ≠ .laysStatic Bundle.tN "SUPPRESSED_SENTINEL" Bundle.listD)
def vx_at0 (own : String) (ic : Nat) (X : String) (names : List String) : List Cond := (Bundle.ownAtoms0 own ic X names).filter vx_no
def vx_atS (own : String) (ic : Nat) (X : String) (names : List String) : List Cond := (Bundle.ownAtoms own ic X names).filter vx_no
/-- a word that the tables alone decide, or a good one -/
def vx_ot (w : Cond) : Bool := w.onTables || goodWord w
theorem vx_ot_at {args a' : Array Value} {s U : State} {w : Cond} (hW : s.WarmedH U.vm) (hvm : s.vm = U.vm) (hg : vx_ot w = true) (h : w.before args s = true) : w.before a' U = true := by
  simp only [vx_ot, Bool.or_eq_true] at hg
  rcases hg with hg | hg
  · exact va_tabs hg hvm h
  · exact word_at hW (good_of_word hg) h
/-- a list's words: the good ones out of the method's own list, the others by premises of their own -/
theorem vx_hat {args : Array Value} {s : State} {L B : List Cond} (h1 : ∀ w ∈ L.filter goodWord, w.before args s = true) (h2 : ∀ w ∈ L.filter (fun w => !goodWord w), w ∈ B) (h3 : ∀ w ∈ B, w.before args s = true) : ∀ w ∈ L, w.before args s = true := by
  intro w hw
  by_cases g : goodWord w = true
  · exact h1 w (List.mem_filter.mpr ⟨hw, g⟩)
  · refine h3 w (h2 w (List.mem_filter.mpr ⟨hw, ?_⟩))
    show (!goodWord w) = true
    cases hgw : goodWord w
    · rfl
    · exact absurd hgw g
theorem vx_c {args : Array Value} {s : State} {w : Cond} {B : List Cond} (h : w.before args s = true) (t : ∀ w ∈ B, w.before args s = true) : ∀ w' ∈ w :: B, w'.before args s = true := fun w' h' => (List.mem_cons.mp h').elim (fun e => by rw [e]; exact h) (t w')
theorem vx_n {args : Array Value} {s : State} : ∀ w ∈ ([] : List Cond), w.before args s = true := fun _ h => nomatch h
theorem vx_own {args : Array Value} {s : State} {L : List Cond} (h1 : ∀ w ∈ L.filter vx_no, w.before args s = true)
    (hU : (Cond.isRef (.static Bundle.tN "UNASSIGNED_STACK" Bundle.steD)).before args s = true) (hN : (Cond.isRef (.static Bundle.tN "SUPPRESSED_SENTINEL" Bundle.listD)).before args s = true)
    (lU : (Cond.laysStatic Bundle.tN "UNASSIGNED_STACK" Bundle.steD).before args s = true) (lN : (Cond.laysStatic Bundle.tN "SUPPRESSED_SENTINEL" Bundle.listD).before args s = true) : ∀ w ∈ L, w.before args s = true := by
  intro w hw
  by_cases e1 : w = .isRef (.static Bundle.tN "UNASSIGNED_STACK" Bundle.steD)
  · rw [e1]; exact hU
  · by_cases e2 : w = .isRef (.static Bundle.tN "SUPPRESSED_SENTINEL" Bundle.listD)
    · rw [e2]; exact hN
    · by_cases e3 : w = .laysStatic Bundle.tN "UNASSIGNED_STACK" Bundle.steD
      · rw [e3]; exact lU
      · by_cases e4 : w = .laysStatic Bundle.tN "SUPPRESSED_SENTINEL" Bundle.listD
        · rw [e4]; exact lN
        · exact h1 w (List.mem_filter.mpr ⟨hw, by unfold vx_no; rw [decide_eq_true e1, decide_eq_true e2, decide_eq_true e3, decide_eq_true e4]; rfl⟩)
/-- where a static field lies, its class's statics cell in H -/
def vx_L (C n d : String) (A : Nat → Prop) (U : State) (H : Heap) : Prop := ∃ (c : ClassId) (k : Class) (i : Nat) (f : Field) (a : Nat) (cell : Cell), U.vm.findClass C = some c ∧ U.fieldFound? C n d = some (c, k, i, f) ∧ f.isStatic = true ∧ k.statics = some a ∧ H[a]? = some cell ∧ cell.vm.isStatics = true ∧ cell.cls = c ∧ f.slot < cell.slots.size ∧ k.staticTypes[f.slot]? = some f.type ∧ ¬ A a
theorem vx_L.moved {C n d : String} {A : Nat → Prop} {u U : State} {H : Heap} (hvm : u.vm.Alike U.vm) (h : vx_L C n d A u H) : vx_L C n d A U H := by
  obtain ⟨c, k, i, f, a, cell, h1, h2, h3, h4, h5, h6, h7, h8, h9, h10⟩ := h
  obtain ⟨k', hi', he⟩ := State.fieldFound?_setVm hvm h2
  exact ⟨c, k', i, f, a, cell, by rw [hvm.findClass]; exact h1, hi', h3, by rw [he]; exact h4, h5, h6, h7, h8, by rw [he]; exact h9, h10⟩
theorem vx_L.kept {C n d : String} {A : Nat → Prop} {U : State} {H H1 : Heap} (h : vx_L C n d A U H) (hq : ∀ a : Nat, a < H.size → ¬ A a → H1[a]? = H[a]?) : vx_L C n d A U H1 := by
  obtain ⟨c, k, i, f, a, cell, h1, h2, h3, h4, h5, h6, h7, h8, h9, h10⟩ := h
  exact ⟨c, k, i, f, a, cell, h1, h2, h3, h4, by rw [hq a (Array.getElem?_eq_some_iff.mp h5).1 h10]; exact h5, h6, h7, h8, h9, h10⟩
theorem vx_L.narrow {C n d : String} {A B : Nat → Prop} {U : State} {H : Heap} (h : vx_L C n d A U H) (hAB : ∀ q, B q → A q) : vx_L C n d B U H := by
  obtain ⟨c, k, i, f, a, cell, h1, h2, h3, h4, h5, h6, h7, h8, h9, h10⟩ := h
  exact ⟨c, k, i, f, a, cell, h1, h2, h3, h4, h5, h6, h7, h8, h9, fun z => h10 (hAB _ z)⟩
theorem vx_L.word {C n d : String} {A : Nat → Prop} {s : State} {args : Array Value} (h : vx_L C n d A s s.heap) : (Cond.laysStatic C n d).before args s = true := by
  obtain ⟨c, k, i, f, a, cell, h1, h2, h3, h4, h5, h6, h7, h8, h9, -⟩ := h
  show (Cond.laysStatic C n d).holds args s none s [] = true
  exact Cond.laysStatic_of h1 h2 h3 h4 h5 h6 h7 h8 h9
/-- .. and what it holds: null or some reference -/
def vx_Zq (C n d : String) (A : Nat → Prop) (U : State) (H : Heap) : Prop := va_Zq C n d A U H ∧ vx_L C n d A U H
theorem vx_Zq.moved {C n d : String} {A : Nat → Prop} {u U : State} {H : Heap} (hvm : u.vm.Alike U.vm) (h : vx_Zq C n d A u H) : vx_Zq C n d A U H := ⟨va_Zq.moved hvm h.1, vx_L.moved hvm h.2⟩
theorem vx_Zq.kept {C n d : String} {A : Nat → Prop} {U : State} {H H1 : Heap} (h : vx_Zq C n d A U H) (hq : ∀ a : Nat, a < H.size → ¬ A a → H1[a]? = H[a]?) : vx_Zq C n d A U H1 := ⟨va_Zq.kept h.1 hq, vx_L.kept h.2 hq⟩
theorem vx_Zq.narrow {C n d : String} {A B : Nat → Prop} {U : State} {H : Heap} (h : vx_Zq C n d A U H) (hAB : ∀ q, B q → A q) : vx_Zq C n d B U H := ⟨va_Zq.narrow h.1 hAB, vx_L.narrow h.2 hAB⟩
theorem vx_Zqof {args : Array Value} {s : State} {C n d : String} {A : Nat → Prop} (hl : (Cond.laysStatic C n d).before args s = true) (hini : (Cond.initialized C).before args s = true) (h : (Cond.isRef (.static C n d)).before args s = true) (hA : ∀ a : Nat, a < s.heap.size → ¬ A a) : vx_Zq C n d A s s.heap := by
  refine ⟨va_Zqof hl hini h hA, ?_⟩
  obtain ⟨c, k, i, f, a, cell, h1, h2, h3, h4, h5, h6, h7, h8, h9⟩ := Cond.laysStatic_spec hl
  exact ⟨c, k, i, f, a, cell, h1, h2, h3, h4, h5, h6, h7, h8, h9, hA a (Array.getElem?_eq_some_iff.mp h5).1⟩
theorem vx_isRef {C n d : String} {v : Value} {A : Nat → Prop} {s : State} {args : Array Value} (h : va_Z C n d v A s s.heap) (hv : v.isRef = true) : (Cond.isRef (.static C n d)).before args s = true := by
  obtain ⟨cf, kf, fi, f, a, cell, h1, h2, h3, h4, h5, h6, h7, -⟩ := h
  have he : (Term.static C n d).eval args s none [] s = some v := by
    simp [Term.eval, State.fieldNamed?, h1, h2, h4, h5, h6, h7]
  simp only [Cond.before, Cond.holds, Cond.value, he]
  cases v <;> simp_all [Value.isRef]
theorem vx_isRefq {C n d : String} {A : Nat → Prop} {s : State} {args : Array Value} (h : va_Zq C n d A s s.heap) : (Cond.isRef (.static C n d)).before args s = true := by
  rcases h with h | ⟨t, h⟩
  · exact vx_isRef h rfl
  · exact vx_isRef h rfl
/-- the same frame, seen from here: as if the method were called anew in this heap -/
theorem vx_rebase {T : State} (X : Stand p l e R s m args below meth c T locs cells slots) {R' : Room} (hf : R'.frames ≤ R.frames) (hl : R'.locals ≤ R.locals) (hc : cells + R'.cells ≤ R.cells) (hs : slots + R'.slots ≤ R.slots) :
    Stand p l e R' ((T.setVm s.vm).setFrames (.invoking m args :: below)) m args below meth c T [] 0 0 := by
  have htop : (T.setVm s.vm).topJava?.isSome := X.here.top
  have hF : ((T.setVm s.vm).setFrames (.invoking m args :: below)).frames = .invoking m args :: below := State.frames_setFrames _ (State.cur_lt_of_top htop)
  obtain ⟨g₀, hg0⟩ := Option.isSome_iff_exists.mp htop
  obtain ⟨r, hr⟩ := State.topJava?_eq_some.mp hg0
  have hl9 : e.platform.stackLimits (T.setVm s.vm).me = e.platform.stackLimits s.me := X.limits
  have hb9 : (T.setVm s.vm).me.stackBytes = s.me.stackBytes := X.bytes
  refine ⟨X.admits, X.cas, X.clock, hF, ?_, X.hears, X.method, X.code, X.here, X.tail, X.warmed, ?_, ?_, ?_⟩
  · have h := X.room
    have hU : ((T.setVm s.vm).setFrames (.invoking m args :: below)).localsInUse = s.localsInUse := by
      rw [State.localsInUse_invoking hF (meth := meth) (c := c) X.method X.code, State.localsInUse_invoking X.frames X.method X.code]
    simp only [State.hasRoom, Bool.and_eq_true, decide_eq_true_eq] at h ⊢
    obtain ⟨⟨⟨⟨h1, h2, h3, h4, h5, h6⟩, h7⟩, h8⟩, h9⟩ := h
    rw [X.frames, List.length_cons] at h2 h3
    have q1 := X.heapSize
    have q2 := X.used
    simp only [hF, hU, List.length_cons, State.stackLimits_setFrames, State.stackBytes_setFrames, hl9, hb9]
    refine ⟨⟨⟨⟨by omega, by omega, by omega, by omega, by omega, h6⟩, ?_⟩, ?_⟩, X.book⟩
    · show T.heap.size + R'.cells ≤ e.platform.maxCells
      omega
    · show T.slotsUsed + R'.slots ≤ e.platform.maxSlots
      omega
  · rw [State.stackLimits_setFrames]; rfl
  · rw [State.stackBytes_setFrames]; rfl
  · refine ⟨?_, Nat.le_refl _, Nat.le_refl _, ?_, ?_, fun a c9 h9 => ⟨c9, h9, rfl, rfl, fun _ _ => rfl⟩⟩
    · obtain ⟨t, ht, -⟩ := State.frames_cons hr
      show T.setVm s.vm = { ((T.setVm s.vm).setFrames (.invoking m args :: below)).setFrames (T.setVm s.vm).frames with heap := T.heap, slotsUsed := T.slotsUsed }
      rw [State.setFrames_setFrames, State.setFrames_self ht]
      rfl
    · show T.slotsUsed = T.slotsUsed + ((T.heap.toList.drop T.heap.size).map (·.slots.size)).sum
      rw [List.drop_eq_nil_of_le (Nat.le_of_eq Array.length_toList)]
      rfl
    · show ((T.heap.toList.drop T.heap.size).map (·.slots.size)).sum ≤ 0
      rw [List.drop_eq_nil_of_le (Nat.le_of_eq Array.length_toList)]
      exact Nat.le_refl _
/-- 'throw new E()': new; dup; invokespecial; athrow -/
theorem vx_throw0 {cc : ByteArray} {pc : Nat} (hexec : p.tables.exec = Jvm.exec) (hb : c.code = cc) (hl : l.stackTraces = false) {own cls : String} {names : List String} {ik ic mc ms : Nat} {A : Nat → Prop}
    (hown : s.vm.findClass own = some m.cls) (hcls : Bundle.fit cls = true) (hnames : ∀ n ∈ names, Bundle.fit n = true)
    (hk : (Cond.classLink own ik cls).before args s = true) (hini : (Cond.initialized cls).before args s = true) (hat : ∀ w ∈ vx_at0 own ic cls names, w.before args s = true)
    (hgood : ∀ w ∈ Cond.classLink own ik cls :: Cond.initialized cls :: vx_at0 own ic cls names, vx_ot w = true)
    (hU : vx_Zq Bundle.tN "UNASSIGNED_STACK" Bundle.steD A s s.heap) (hN : vx_Zq Bundle.tN "SUPPRESSED_SENTINEL" Bundle.listD A s s.heap) (hS : va_S A s.heap H locs) (hsize : ls.size = c.maxLocals)
    (d0 : decode cc pc = .ok (.new ik, 3)) (d3 : decode cc (pc + 3) = .ok (.dup, 1)) (d4 : decode cc (pc + 4) = .ok (.invokespecial ic, 3)) (d7 : decode cc (pc + 7) = .ok (.athrow, 1))
    (hout : ∀ x ∈ c.exceptionTable.toList, covers x (pc + 7) = false)
    (hRframes : names.length + 3 < R.frames) (hRlocals : (rest.map fun v => v.category).sum + (13 * (names.length + 1) + 42) ≤ R.locals) (hRcells : cells + 1 ≤ R.cells) (hRslots : slots + 6 ≤ R.slots) (hlocks : meth.locks = false)
    (hx : ∀ t : State, s.vm.Alike t.vm → H.size ≤ t.heap.size → (∀ q : Nat, q < H.size → t.heap[q]? = H[q]?) → XC cls s t)
    (hf : ∀ z ∈ locs, free z.base) (hc : cells + 1 ≤ mc) (hs : slots + 6 ≤ ms) :
    W p l e R s m args below meth c H locs cells slots (vx_MQ below Qc XC args s mc ms free) (F0 m pc ls rest) := by
  intro T hT X
  have htr : e.platform.stackTraces = false := (show e.platform.stackTraces = l.stackTraces by rw [X.admits.platform]).trans hl
  have Y := vx_rebase X (R' := { frames := R.frames, locals := R.locals, cells := 1, slots := 6 }) (Nat.le_refl _) (Nat.le_refl _) hRcells hRslots
  obtain ⟨s', hA⟩ : ∃ z, z = (T.setVm s.vm).setFrames (.invoking m args :: below) := ⟨_, rfl⟩
  rw [← hA] at Y
  have hvm : s'.vm = s.vm := by rw [hA]; rfl
  have hhp : s'.heap = H := by rw [hA]; exact hT
  have hW0 : s.WarmedH s'.vm := by rw [hvm]; exact State.WarmedH.refl s
  have hat' : ∀ w ∈ vx_at0 own ic cls names, w.before args s' = true := fun w hw => vx_ot_at hW0 hvm.symm (hgood w (List.mem_cons_of_mem _ (List.mem_cons_of_mem _ hw))) (hat w hw)
  have hk' : (Cond.classLink own ik cls).before args s' = true := vx_ot_at hW0 hvm.symm (hgood _ List.mem_cons_self) hk
  have hini' : (Cond.initialized cls).before args s' = true := vx_ot_at hW0 hvm.symm (hgood _ (List.mem_cons_of_mem _ List.mem_cons_self)) hini
  have hU' : vx_Zq Bundle.tN "UNASSIGNED_STACK" Bundle.steD A s' s'.heap := by rw [hhp]; exact vx_Zq.moved hW0.alike (hU.kept hS.2.1)
  have hN' : vx_Zq Bundle.tN "SUPPRESSED_SENTINEL" Bundle.listD A s' s'.heap := by rw [hhp]; exact vx_Zq.moved hW0.alike (hN.kept hS.2.1)
  have h : ∀ w ∈ Bundle.ownAtoms0 own ic cls names, w.before args s' = true := vx_own hat' (vx_isRefq hU'.1) (vx_isRefq hN'.1) hU'.2.word hN'.2.word
  have hown' : s'.vm.findClass own = some m.cls := by rw [hvm]; exact hown
  have hins : (Cond.instantiable cls 6).before args s' = true := h _ (by simp [Bundle.ownAtoms0])
  obtain ⟨vm₁, cX, kX, hfX, hkX, -, -, X₁, st1⟩ := Y.newCold hexec (own := own) (C := cls) (index := ik) (n := 6) hown' hk' hins hini'
    (g := F0 m pc ls rest) rfl (by rw [hb]; exact d0) (Nat.le_refl _) (Nat.le_refl _)
  generalize hT1 : (T.setVm vm₁).pushCell { cls := cX, slots := kX.instanceTypes.map defaultValue, vm := .none } = T1 at X₁ st1
  have hcat : (Value.ref T.heap.size).category = 1 := rfl
  have hcellA : T1.heap[T.heap.size]? = some (freshCell cX kX) := by rw [← hT1]; exact State.heap_pushCell_size _ _
  have d3' : decode c.code (pc + 3) = .ok (.dup, 1) := by rw [hb]; exact d3
  obtain ⟨U, hsteps, hrun, hend, hW, hsame, ce, hce, hO⟩ := X₁.ctorThrow0 hexec htr (own := own) (cls := cls) (names := names) (ic := ic) hown' hcls hnames h (fun x hx => nomatch hx) hfX hkX hcellA (by rw [hhp, hT]; exact Nat.le_refl _)
    (g := { method := m, pc := pc + 4, locals := ls, stack := .ref T.heap.size :: .ref T.heap.size :: rest, locked := none }) rfl hsize rfl rfl (rest := rest) rfl
    (by rw [hb]; exact d4) (by rw [hb]; exact d7) hout hRframes (by simp only [List.map_cons, List.sum_cons, hcat]; omega) hlocks
  obtain ⟨f1, f2⟩ := vx_frame hsame
  rw [hhp] at f1 f2
  have hWs : s.WarmedH U.vm := State.WarmedH.trans hW0 hW
  have hcl : s.vm.findClass cls = some ce.cls := by
    have h9 := hO.cls
    rw [hvm] at h9
    exact h9
  have hall : s.sameButNew ({ U with vm := s.vm } : State) locs mc ms := by
    subst hA
    obtain ⟨e1, e2⟩ := hsame
    rw [State.setFrames_setFrames] at e1
    have h2 : (T.setVm s.vm).sameButNew ({ U with vm := s.vm } : State) [] (0 + 1) (0 + 6) := ⟨e1, e2⟩
    have h3 := X.same.trans h2
    rw [List.append_nil] at h3
    exact h3.mono hc hs
  refine ⟨U, ?_, .threw T.heap.size, hrun, hend, Or.inr ⟨T.heap.size, rfl, cls, ce, locs, hx U hWs.alike f1 (fun q hq => f2 q hq (fun z hz => nomatch hz)), hce, hO.vm, hcl, hWs, hall, hf⟩⟩
  refine st1 _ ?_
  show Steps p.tables e below (T1.setTop { method := m, pc := pc + 3, locals := ls, stack := .ref T.heap.size :: rest, locked := none }) _
  jvm_step X₁.here [X₁.here.top, hexec, d3', Value.category]
  exact hsteps
/-- 'throw new E("text")': new; dup; ldc; invokespecial; athrow -/
theorem vx_throwS {cc : ByteArray} {pc : Nat} (hexec : p.tables.exec = Jvm.exec) (hb : c.code = cc) (hl : l.stackTraces = false) {own cls text : String} {names : List String} {ik is ic mc ms sa : Nat} {A : Nat → Prop}
    (hown : s.vm.findClass own = some m.cls) (hcls : Bundle.fit cls = true) (hnames : ∀ n ∈ names, Bundle.fit n = true)
    (hk : (Cond.classLink own ik cls).before args s = true) (hini : (Cond.initialized cls).before args s = true) (hstr : vk_R own is text sa s) (hat : ∀ w ∈ vx_atS own ic cls names, w.before args s = true)
    (hgood : ∀ w ∈ Cond.classLink own ik cls :: Cond.initialized cls :: vx_atS own ic cls names, vx_ot w = true)
    (hU : vx_Zq Bundle.tN "UNASSIGNED_STACK" Bundle.steD A s s.heap) (hN : vx_Zq Bundle.tN "SUPPRESSED_SENTINEL" Bundle.listD A s s.heap) (hS : va_S A s.heap H locs) (hsize : ls.size = c.maxLocals)
    (d0 : decode cc pc = .ok (.new ik, 3)) (d3 : decode cc (pc + 3) = .ok (.dup, 1)) (d4 : decode cc (pc + 4) = .ok (.ldc is, 2)) (d6 : decode cc (pc + 6) = .ok (.invokespecial ic, 3)) (d9 : decode cc (pc + 9) = .ok (.athrow, 1))
    (hout : ∀ x ∈ c.exceptionTable.toList, covers x (pc + 9) = false)
    (hRframes : names.length + 3 < R.frames) (hRlocals : (rest.map fun v => v.category).sum + (13 * (names.length + 1) + 43) ≤ R.locals) (hRcells : cells + 1 ≤ R.cells) (hRslots : slots + 6 ≤ R.slots) (hlocks : meth.locks = false)
    (hx : ∀ t : State, s.vm.Alike t.vm → H.size ≤ t.heap.size → (∀ q : Nat, q < H.size → t.heap[q]? = H[q]?) → XC cls s t)
    (hf : ∀ z ∈ locs, free z.base) (hc : cells + 1 ≤ mc) (hs : slots + 6 ≤ ms) :
    W p l e R s m args below meth c H locs cells slots (vx_MQ below Qc XC args s mc ms free) (F0 m pc ls rest) := by
  intro T hT X
  have htr : e.platform.stackTraces = false := (show e.platform.stackTraces = l.stackTraces by rw [X.admits.platform]).trans hl
  have Y := vx_rebase X (R' := { frames := R.frames, locals := R.locals, cells := 1, slots := 6 }) (Nat.le_refl _) (Nat.le_refl _) hRcells hRslots
  obtain ⟨s', hA⟩ : ∃ z, z = (T.setVm s.vm).setFrames (.invoking m args :: below) := ⟨_, rfl⟩
  rw [← hA] at Y
  have hvm : s'.vm = s.vm := by rw [hA]; rfl
  have hhp : s'.heap = H := by rw [hA]; exact hT
  have hW0 : s.WarmedH s'.vm := by rw [hvm]; exact State.WarmedH.refl s
  have hat' : ∀ w ∈ vx_atS own ic cls names, w.before args s' = true := fun w hw => vx_ot_at hW0 hvm.symm (hgood w (List.mem_cons_of_mem _ (List.mem_cons_of_mem _ hw))) (hat w hw)
  have hk' : (Cond.classLink own ik cls).before args s' = true := vx_ot_at hW0 hvm.symm (hgood _ List.mem_cons_self) hk
  have hini' : (Cond.initialized cls).before args s' = true := vx_ot_at hW0 hvm.symm (hgood _ (List.mem_cons_of_mem _ List.mem_cons_self)) hini
  have hU' : vx_Zq Bundle.tN "UNASSIGNED_STACK" Bundle.steD A s' s'.heap := by rw [hhp]; exact vx_Zq.moved hW0.alike (hU.kept hS.2.1)
  have hN' : vx_Zq Bundle.tN "SUPPRESSED_SENTINEL" Bundle.listD A s' s'.heap := by rw [hhp]; exact vx_Zq.moved hW0.alike (hN.kept hS.2.1)
  have h : ∀ w ∈ Bundle.ownAtoms own ic cls names, w.before args s' = true := vx_own hat' (vx_isRefq hU'.1) (vx_isRefq hN'.1) hU'.2.word hN'.2.word
  have hown' : s'.vm.findClass own = some m.cls := by rw [hvm]; exact hown
  have hins : (Cond.instantiable cls 6).before args s' = true := h _ (by simp [Bundle.ownAtoms])
  obtain ⟨vm₁, cX, kX, hfX, hkX, -, -, X₁, st1⟩ := Y.newCold hexec (own := own) (C := cls) (index := ik) (n := 6) hown' hk' hins hini'
    (g := F0 m pc ls rest) rfl (by rw [hb]; exact d0) (Nat.le_refl _) (Nat.le_refl _)
  generalize hT1 : (T.setVm vm₁).pushCell { cls := cX, slots := kX.instanceTypes.map defaultValue, vm := .none } = T1 at X₁ st1
  have hcat : (Value.ref T.heap.size).category = 1 := rfl
  have hcellA : T1.heap[T.heap.size]? = some (freshCell cX kX) := by rw [← hT1]; exact State.heap_pushCell_size _ _
  have d3' : decode c.code (pc + 3) = .ok (.dup, 1) := by rw [hb]; exact d3
  have d4' : decode c.code (pc + 4) = .ok (.ldc is, 2) := by rw [hb]; exact d4
  have hstr' : vk_R own is text sa s' := vk_R.warm hW0 hstr
  obtain ⟨U, hsteps, hrun, hend, hW, hsame, ce, hce, hO⟩ := X₁.ctorThrowS hexec htr (own := own) (cls := cls) (names := names) (ic := ic) hown' hcls hnames h (fun x hx => nomatch hx) hfX hkX hcellA (by rw [hhp, hT]; exact Nat.le_refl _) (msg := .ref sa) rfl
    (g := { method := m, pc := pc + 6, locals := ls, stack := .ref sa :: .ref T.heap.size :: .ref T.heap.size :: rest, locked := none }) rfl hsize rfl rfl (rest := rest) rfl
    (by rw [hb]; exact d6) (by rw [hb]; exact d9) hout hRframes (by simp only [List.map_cons, List.sum_cons, hcat]; omega) hlocks
  obtain ⟨f1, f2⟩ := vx_frame hsame
  rw [hhp] at f1 f2
  have hWs : s.WarmedH U.vm := State.WarmedH.trans hW0 hW
  have hcl : s.vm.findClass cls = some ce.cls := by
    have h9 := hO.cls
    rw [hvm] at h9
    exact h9
  have hall : s.sameButNew ({ U with vm := s.vm } : State) locs mc ms := by
    subst hA
    obtain ⟨e1, e2⟩ := hsame
    rw [State.setFrames_setFrames] at e1
    have h2 : (T.setVm s.vm).sameButNew ({ U with vm := s.vm } : State) [] (0 + 1) (0 + 6) := ⟨e1, e2⟩
    have h3 := X.same.trans h2
    rw [List.append_nil] at h3
    exact h3.mono hc hs
  refine ⟨U, ?_, .threw T.heap.size, hrun, hend, Or.inr ⟨T.heap.size, rfl, cls, ce, locs, hx U hWs.alike f1 (fun q hq => f2 q hq (fun z hz => nomatch hz)), hce, hO.vm, hcl, hWs, hall, hf⟩⟩
  refine st1 _ ?_
  show Steps p.tables e below (T1.setTop { method := m, pc := pc + 3, locals := ls, stack := .ref T.heap.size :: rest, locked := none }) _
  jvm_step X₁.here [X₁.here.top, hexec, d3', Value.category]
  exact X₁.ldcString hexec (own := own) (text := text) (index := is) (a := sa) hown' hstr'.1 hstr'.2
    (g := { method := m, pc := pc + 4, locals := ls, stack := .ref T.heap.size :: .ref T.heap.size :: rest, locked := none }) rfl d4' _ hsteps
/-- 'throw new E("text")', the text by a wide index -/
theorem vx_throwSW {cc : ByteArray} {pc : Nat} (hexec : p.tables.exec = Jvm.exec) (hb : c.code = cc) (hl : l.stackTraces = false) {own cls text : String} {names : List String} {ik is ic mc ms sa : Nat} {A : Nat → Prop}
    (hown : s.vm.findClass own = some m.cls) (hcls : Bundle.fit cls = true) (hnames : ∀ n ∈ names, Bundle.fit n = true)
    (hk : (Cond.classLink own ik cls).before args s = true) (hini : (Cond.initialized cls).before args s = true) (hstr : vk_R own is text sa s) (hat : ∀ w ∈ vx_atS own ic cls names, w.before args s = true)
    (hgood : ∀ w ∈ Cond.classLink own ik cls :: Cond.initialized cls :: vx_atS own ic cls names, vx_ot w = true)
    (hU : vx_Zq Bundle.tN "UNASSIGNED_STACK" Bundle.steD A s s.heap) (hN : vx_Zq Bundle.tN "SUPPRESSED_SENTINEL" Bundle.listD A s s.heap) (hS : va_S A s.heap H locs) (hsize : ls.size = c.maxLocals)
    (d0 : decode cc pc = .ok (.new ik, 3)) (d3 : decode cc (pc + 3) = .ok (.dup, 1)) (d4 : decode cc (pc + 4) = .ok (.ldc_w is, 3)) (d7 : decode cc (pc + 7) = .ok (.invokespecial ic, 3)) (d10 : decode cc (pc + 10) = .ok (.athrow, 1))
    (hout : ∀ x ∈ c.exceptionTable.toList, covers x (pc + 10) = false)
    (hRframes : names.length + 3 < R.frames) (hRlocals : (rest.map fun v => v.category).sum + (13 * (names.length + 1) + 43) ≤ R.locals) (hRcells : cells + 1 ≤ R.cells) (hRslots : slots + 6 ≤ R.slots) (hlocks : meth.locks = false)
    (hx : ∀ t : State, s.vm.Alike t.vm → H.size ≤ t.heap.size → (∀ q : Nat, q < H.size → t.heap[q]? = H[q]?) → XC cls s t)
    (hf : ∀ z ∈ locs, free z.base) (hc : cells + 1 ≤ mc) (hs : slots + 6 ≤ ms) :
    W p l e R s m args below meth c H locs cells slots (vx_MQ below Qc XC args s mc ms free) (F0 m pc ls rest) := by
  intro T hT X
  have htr : e.platform.stackTraces = false := (show e.platform.stackTraces = l.stackTraces by rw [X.admits.platform]).trans hl
  have Y := vx_rebase X (R' := { frames := R.frames, locals := R.locals, cells := 1, slots := 6 }) (Nat.le_refl _) (Nat.le_refl _) hRcells hRslots
  obtain ⟨s', hA⟩ : ∃ z, z = (T.setVm s.vm).setFrames (.invoking m args :: below) := ⟨_, rfl⟩
  rw [← hA] at Y
  have hvm : s'.vm = s.vm := by rw [hA]; rfl
  have hhp : s'.heap = H := by rw [hA]; exact hT
  have hW0 : s.WarmedH s'.vm := by rw [hvm]; exact State.WarmedH.refl s
  have hat' : ∀ w ∈ vx_atS own ic cls names, w.before args s' = true := fun w hw => vx_ot_at hW0 hvm.symm (hgood w (List.mem_cons_of_mem _ (List.mem_cons_of_mem _ hw))) (hat w hw)
  have hk' : (Cond.classLink own ik cls).before args s' = true := vx_ot_at hW0 hvm.symm (hgood _ List.mem_cons_self) hk
  have hini' : (Cond.initialized cls).before args s' = true := vx_ot_at hW0 hvm.symm (hgood _ (List.mem_cons_of_mem _ List.mem_cons_self)) hini
  have hU' : vx_Zq Bundle.tN "UNASSIGNED_STACK" Bundle.steD A s' s'.heap := by rw [hhp]; exact vx_Zq.moved hW0.alike (hU.kept hS.2.1)
  have hN' : vx_Zq Bundle.tN "SUPPRESSED_SENTINEL" Bundle.listD A s' s'.heap := by rw [hhp]; exact vx_Zq.moved hW0.alike (hN.kept hS.2.1)
  have h : ∀ w ∈ Bundle.ownAtoms own ic cls names, w.before args s' = true := vx_own hat' (vx_isRefq hU'.1) (vx_isRefq hN'.1) hU'.2.word hN'.2.word
  have hown' : s'.vm.findClass own = some m.cls := by rw [hvm]; exact hown
  have hins : (Cond.instantiable cls 6).before args s' = true := h _ (by simp [Bundle.ownAtoms])
  obtain ⟨vm₁, cX, kX, hfX, hkX, -, -, X₁, st1⟩ := Y.newCold hexec (own := own) (C := cls) (index := ik) (n := 6) hown' hk' hins hini'
    (g := F0 m pc ls rest) rfl (by rw [hb]; exact d0) (Nat.le_refl _) (Nat.le_refl _)
  generalize hT1 : (T.setVm vm₁).pushCell { cls := cX, slots := kX.instanceTypes.map defaultValue, vm := .none } = T1 at X₁ st1
  have hcat : (Value.ref T.heap.size).category = 1 := rfl
  have hcellA : T1.heap[T.heap.size]? = some (freshCell cX kX) := by rw [← hT1]; exact State.heap_pushCell_size _ _
  have d3' : decode c.code (pc + 3) = .ok (.dup, 1) := by rw [hb]; exact d3
  have d4' : decode c.code (pc + 4) = .ok (.ldc_w is, 3) := by rw [hb]; exact d4
  have hstr' : vk_R own is text sa s' := vk_R.warm hW0 hstr
  obtain ⟨U, hsteps, hrun, hend, hW, hsame, ce, hce, hO⟩ := X₁.ctorThrowS hexec htr (own := own) (cls := cls) (names := names) (ic := ic) hown' hcls hnames h (fun x hx => nomatch hx) hfX hkX hcellA (by rw [hhp, hT]; exact Nat.le_refl _) (msg := .ref sa) rfl
    (g := { method := m, pc := pc + 7, locals := ls, stack := .ref sa :: .ref T.heap.size :: .ref T.heap.size :: rest, locked := none }) rfl hsize rfl rfl (rest := rest) rfl
    (by rw [hb]; exact d7) (by rw [hb]; exact d10) hout hRframes (by simp only [List.map_cons, List.sum_cons, hcat]; omega) hlocks
  obtain ⟨f1, f2⟩ := vx_frame hsame
  rw [hhp] at f1 f2
  have hWs : s.WarmedH U.vm := State.WarmedH.trans hW0 hW
  have hcl : s.vm.findClass cls = some ce.cls := by
    have h9 := hO.cls
    rw [hvm] at h9
    exact h9
  have hall : s.sameButNew ({ U with vm := s.vm } : State) locs mc ms := by
    subst hA
    obtain ⟨e1, e2⟩ := hsame
    rw [State.setFrames_setFrames] at e1
    have h2 : (T.setVm s.vm).sameButNew ({ U with vm := s.vm } : State) [] (0 + 1) (0 + 6) := ⟨e1, e2⟩
    have h3 := X.same.trans h2
    rw [List.append_nil] at h3
    exact h3.mono hc hs
  refine ⟨U, ?_, .threw T.heap.size, hrun, hend, Or.inr ⟨T.heap.size, rfl, cls, ce, locs, hx U hWs.alike f1 (fun q hq => f2 q hq (fun z hz => nomatch hz)), hce, hO.vm, hcl, hWs, hall, hf⟩⟩
  refine st1 _ ?_
  show Steps p.tables e below (T1.setTop { method := m, pc := pc + 3, locals := ls, stack := .ref T.heap.size :: rest, locked := none }) _
  jvm_step X₁.here [X₁.here.top, hexec, d3', Value.category]
  exact X₁.ldcStringW hexec (own := own) (text := text) (index := is) (a := sa) hown' hstr'.1 hstr'.2
    (g := { method := m, pc := pc + 4, locals := ls, stack := .ref T.heap.size :: .ref T.heap.size :: rest, locked := none }) rfl d4' _ hsteps
end Ends
section Bodies
variable {l : Launch}
theorem vx_ofW {y : MethodName} {ws ws' : List Cond} {rm : Room} {Pc : Array Value → State → Prop} {Qc : Array Value → State → Outcome → State → Prop} {XC : String → State → State → Prop} {mc ms : Nat} {free : Addr → Prop} {cc : ByteArray} {maxL : Nat} {ret : Option FieldType}
    (hy : plainName y.cls = true) (hw : ws = Cond.code y cc maxL ret :: ws')
    (body : ∀ p e s m args below meth c s₁, BodyLoose p l y (headSpec ws rm) cc maxL ret e s m args below meth c s₁ → c.maxLocals = maxL → (∀ x ∈ c.exceptionTable.toList, False) → Pc args s →
      W p l e (headSpec ws rm).room s m args below meth c s.heap [] 0 0 (vx_MQ below Qc XC args s mc ms free) (entryFrame m args maxL)) : vx_Met l y ws rm Pc Qc XC mc ms free := by
  refine MetFree.of_bodyS (code := cc) (maxLocals := maxL) (ret := ret) hy ?_ ?_
  · intro args s m h hn
    obtain ⟨meth, c, h1, h2, h3, h4, h5, h6, -, -⟩ := Cond.code_spec hn (atoms_spec (ws := ws) h _ (by rw [hw]; exact List.mem_cons_self))
    exact ⟨meth, c, h1, h2, h3, h4, h5, h6⟩
  · intro p e s m args below meth c s₁ B hml hP _
    have hh0 : s₁.heap = s.heap := by rw [B.state]; rfl
    have ht : ∀ x ∈ c.exceptionTable.toList, False := by
      obtain ⟨meth9, c9, h1, h2, -, -, -, -, h7, -⟩ := Cond.code_spec B.named (atoms_spec (ws := ws) B.pre _ (by rw [hw]; exact List.mem_cons_self))
      cases Option.some.inj (h1.symm.trans B.method)
      cases Option.some.inj (h2.symm.trans (Stand.of_body B).code)
      intro x hx
      rw [Array.isEmpty_iff.mp h7] at hx
      cases hx
    obtain ⟨t, a1, o, b1, b2, b3⟩ := body p e s m args below meth c s₁ B hml ht hP s₁ hh0 (Stand.of_body B)
    exact ⟨t, o, a1, b1, b2, b3⟩
/-- the table of a body with handlers -/
theorem vx_table {p : Program} {x y : MethodName} {S : Spec} {cc bytes : ByteArray} {maxL maxL' : Nat} {ret ret' : Option FieldType} {e : Env} {s s₁ : State} {m : MethodId} {args : Array Value} {below : List Frame} {meth : Method} {c : Code} {hh : List (Nat × Nat × Nat × Nat)}
    (B : BodyLoose p l y S cc maxL ret e s m args below meth c s₁) (h : (Cond.codeWith y bytes maxL' ret' hh).before args s = true) : c.exceptionTable.toList = tableOf hh := by
  obtain ⟨m9, meth9, c9, hn9, h1, h2, -, -, h6, -⟩ := Cond.codeWith_spec h
  cases Option.some.inj (hn9.symm.trans B.named)
  cases Option.some.inj (h1.symm.trans B.method)
  cases Option.some.inj (h2.symm.trans (Stand.of_body B).code)
  rw [← h6, table_eq]
end Bodies
end VXA
/-! ===== END ===== -/
/-! ===== BEGIN a static call of a method with an exception table ===== -/
section VXS
variable {p : Program} {l : Launch} {e : Env} {R : Room} {s : State} {m : MethodId} {args : Array Value} {below : List Frame} {meth : Method} {c : Code} {T : State} {H : Heap} {locs : List Loc} {cells slots : Nat}
abbrev vx_CSW (R : Room) (s : State) (args : Array Value) (own : String) (index : Nat) (y : MethodName) (bytes : ByteArray) (maxL : Nat) (ret : Option FieldType) (hh : List (Nat × Nat × Nat × Nat)) (ws : List Cond) (rm : Room) (mc ms n : Nat) : Prop :=
  (rm.cells = mc ∧ rm.slots = ms ∧ rm.frames + 1 ≤ R.frames ∧ 8 + (maxL + 11) + rm.locals ≤ R.locals ∧ (∀ w ∈ ws, ∀ (a' : Array Value) (U : State), s.WarmedH U.vm → w.before a' U = true) ∧ Cond.codeWith y bytes maxL ret hh ∈ ws) ∧
  (Cond.codeWith y bytes maxL ret hh).before args s = true ∧ (Cond.initialized y.cls).before args s = true ∧ (y.cls ≠ "java/lang/invoke/MethodHandle" ∧ y.cls ≠ "java/lang/invoke/VarHandle") ∧
  (∀ sig, parseMethodDescriptor y.desc = some sig → n = sig.parameters.length) ∧ (Cond.methodLink own index y).before args s = true ∧ (Cond.static y).before args s = true
theorem vx_cwSW {own : String} {index maxL mc ms : Nat} {y : MethodName} {bytes : ByteArray} {ret : Option FieldType} {hh : List (Nat × Nat × Nat × Nat)} {Ts ws ws' : List Cond} {rm : Room} (n : Nat) (ht : ∀ w ∈ Ts, w.before args s = true) (hT : GoodIn Ts (va_wsS own index y ws)) (hw : ws = Cond.codeWith y bytes maxL ret hh :: ws') (hrc : rm.cells = mc) (hrs : rm.slots = ms)
    (hd : y.cls ≠ "java/lang/invoke/MethodHandle" ∧ y.cls ≠ "java/lang/invoke/VarHandle" ∧ (parseMethodDescriptor y.desc).map (fun d => d.parameters.length) = some n) (hR : rm.frames + 1 ≤ R.frames ∧ 8 + (maxL + 11) + rm.locals ≤ R.locals) :
    vx_CSW R s args own index y bytes maxL ret hh ws rm mc ms n := by
  have ok : ∀ w ∈ va_wsS own index y ws, w.before args s = true := fun w h => ht w (hT w h).1
  have hG : GoodIn Ts ws := fun w h => hT w (by unfold va_wsS; exact List.mem_append_right _ h)
  have hc : Cond.codeWith y bytes maxL ret hh ∈ ws := by rw [hw]; exact List.mem_cons_self
  refine ⟨⟨hrc, hrs, hR.1, hR.2, pay_in ht hG, hc⟩, ht _ (hG _ hc).1, ok _ (by simp [va_wsS]), ⟨hd.1, hd.2.1⟩, fun sig h => ?_, ok _ (by simp [va_wsS]), ok _ (by simp [va_wsS])⟩
  have h2 := hd.2.2
  rw [h] at h2
  exact (Option.some.inj h2).symm
theorem vx_callSW (X : Stand p l e R s m args below meth c T locs cells slots) (hexec : p.tables.exec = Jvm.exec) {own : String} {index : Nat} {y : MethodName} {bytes : ByteArray} {maxL : Nat} {ret : Option FieldType} {hh : List (Nat × Nat × Nat × Nat)}
    (hown : s.vm.findClass own = some m.cls) (hlink : (Cond.methodLink own index y).before args s = true) (hstat : (Cond.static y).before args s = true) (hinit : (Cond.initialized y.cls).before args s = true)
    (hcode : (Cond.codeWith y bytes maxL ret hh).before args s = true) (hy : y.cls ≠ "java/lang/invoke/MethodHandle" ∧ y.cls ≠ "java/lang/invoke/VarHandle")
    {W9 : Nat} {Pre : Pt → Array Value → Prop} {Post : Pt → Array Value → Option Value → Pt → Prop} (hK : Back l R p e below s args y 3 W9 Pre Post)
    {g : JFrame} (hg : g.method = m) (hsize : g.locals.size = c.maxLocals) {argsL rest : List Value} (hlen : ∀ sig, parseMethodDescriptor y.desc = some sig → argsL.length = sig.parameters.length)
    (hstack : g.stack = argsL.reverse ++ rest) (hW : 2 * g.monitorRoom + (rest.map fun v => v.category).sum ≤ W9) (hdg : decode c.code g.pc = .ok (.invokestatic index, 3))
    (hpre : ∀ vm₁, s.WarmedH vm₁ → Pre ⟨T.setVm vm₁, locs, cells, slots⟩ argsL.toArray) :
    ∃ (v : Option Value) (vm₁ : Vm) (B : Pt), s.WarmedH vm₁ ∧ Stand p l e R s m args below meth c B.U B.locs B.cells B.slots ∧ Post ⟨T.setVm vm₁, locs, cells, slots⟩ argsL.toArray v B ∧
      ∀ target, Steps p.tables e below (B.U.setTop { g with pc := g.pc + 3, stack := v.toList ++ rest }) target → Steps p.tables e below (T.setTop g) target := by
  obtain ⟨mk, methM, cM, hnamed, hmethM, -, -, -, -, -, -, hsigM⟩ := Cond.codeWith_spec hcode
  have hstatic : methM.isStatic = true := Cond.static_spec hnamed hmethM hstat
  obtain ⟨kP, hkP, -⟩ := className_of_methodNamed hnamed
  have hinitP : kP.init = .initialized := Cond.initialized_spec (findClass_of_methodNamed hnamed) hkP hinit
  obtain ⟨vm₁, X₁, hstep₁⟩ := X.invokestatic hexec hown hlink hnamed hmethM hstatic hkP hinitP hy (g := g) hg (argsL := argsL) (rest := rest) (hlen _ hsigM) hstack hdg
  obtain ⟨v, B, X', hpost, hsteps⟩ := hK m meth c ⟨T.setVm vm₁, locs, cells, slots⟩ { g with stack := rest } (.invokestatic index) mk argsL.toArray X₁ hg hsize hdg hW (X₁.named hnamed) (hpre vm₁ X₁.warmed)
  exact ⟨v, vm₁, B, X₁.warmed, X', hpost, fun target h => hstep₁ _ fun acts => by rw [doInvoke_state]; exact hsteps.trans h⟩
theorem vx_runSW {y : MethodName} {bytes cc : ByteArray} {maxL nL mc ms n index : Nat} {ret : Option FieldType} {hh : List (Nat × Nat × Nat × Nat)} {ws : List Cond} {rm : Room} {Pc : Array Value → State → Prop} {Qc : Array Value → State → Outcome → State → Prop} {free : Addr → Prop} {Ts : List Cond} {own : String} {As rest : List Value} {g : JFrame}
    (S : CallFix p m c cc nL s args Ts own) (hM : Met l y ws rm Pc Qc mc ms free) (cw : vx_CSW R s args own index y bytes maxL ret hh ws rm mc ms n) (hp : PreS s H Pc As)
    (hg : g.method = m) (hn : As.length = n) (hsize : g.locals.size = nL) (hstack : g.stack = As.reverse ++ rest) (hW : 2 * g.monitorRoom + (rest.map fun v => v.category).sum ≤ 8) (hdg : decode cc g.pc = .ok (.invokestatic index, 3)) (hf : cells + mc ≤ R.cells ∧ slots + ms ≤ R.slots) :
    va_Run p l e R s m args below meth c H locs cells slots mc ms g rest (Qc As.toArray) (free) := by
  obtain ⟨⟨hrc, hrs, hfr, hlo, hws, hcw⟩, hcode, hini, hy, hlen, hl, hstt⟩ := cw
  have hK : Back l R p e below s args y 3 8 (PreOf R mc ms Pc) (PostOf Qc mc ms free) := va_backW (hh := hh) (bytes := bytes) (maxL := maxL) (ret := ret) hM hp.1 hrc hrs hfr hlo hws hcw (fun a' U hW => word_at hW (Or.inl (by first | rfl | simp [Cond.onTables, Cond.keeps, Cond.steady])) hini)
  obtain ⟨hx, hb, hml, ho, -⟩ := S
  intro T hT X
  obtain ⟨v, vm₁, ⟨U', l2, c2, s2⟩, hW₁, X', ⟨g', mk, t, L, e1, e2, hq, h1, hL, h2, h3⟩, st⟩ := vx_callSW X hx (hh := hh) (bytes := bytes) (maxL := maxL) (ret := ret) ho hl hstt hini hcode hy hK hg (hsize.trans hml.symm) (argsL := As) (rest := rest) (fun sig h => hn.trans (hlen sig h)) hstack hW (by rw [hb]; exact hdg)
    (fun vm₁ hW₁ => ⟨hf.1, hf.2, hp.2 (T.setVm vm₁) hT hW₁⟩)
  dsimp only [Pt.U, Pt.locs, Pt.cells, Pt.slots] at X' e1 e2 h1 h2 h3 st
  subst h1; subst h2; subst h3
  exact ⟨v, (T.setVm vm₁).calling g' mk As.toArray, t, U', L, hT, X', hL, e1, e2, hq, st⟩
/-- not caught here, past rows that name other classes: it goes on to the caller -/
theorem vx_outP {p : Program} {l : Launch} {e : Env} {R : Room} {s : State} {m : MethodId} {args : Array Value} {below : List Frame} {meth : Method} {c : Code} {H : Heap} {locs : List Loc} {cells slots : Nat} {free : Addr → Prop} {ls : Array Slot} {rest : List Value} {Qc : Array Value → State → Outcome → State → Prop} {XC : String → State → State → Prop}
    {pc : Nat} {own E : String} {ce : Cell} {q : Addr} {mc ms : Nat} (hown : s.vm.findClass own = some m.cls) (hlocks : meth.locks = false)
    (hpass : ∀ z ∈ c.exceptionTable.toList, covers z pc = false ∨ (z.catchType ≠ 0 ∧ ∃ nm : String, (Cond.classLink own z.catchType nm).before args s = true ∧ va_Nc E nm s)) (hcell : H[q]? = some ce) (hv : ce.vm = .none) (hcl : s.vm.findClass E = some ce.cls)
    (hx : ∀ t : State, t.heap = H → s.vm.Alike t.vm → XC E s t) (hf : ∀ z ∈ locs, free z.base) (hc : cells ≤ mc) (hs : slots ≤ ms) :
    vx_W p l e R s m args below meth c H locs cells slots (vx_MQ below Qc XC args s mc ms free) (F0 m pc ls rest) q := by
  intro T hT X
  have hpl : e.platform.magicAccessors = ({} : Platform).magicAccessors := by rw [X.admits.platform]
  obtain ⟨vm', hW', X', st⟩ := X.outThrough hlocks q (g := F0 m pc ls rest) rfl rfl rfl (cell := ce) (by rw [hT]; exact hcell) (by rw [hv]; rfl)
    (by obtain ⟨k9, h9, -⟩ := Vm.findClass_spec hcl; exact ⟨k9, h9⟩) (fun z hz => by
      rcases hpass z hz with h | ⟨hz0, nm, hl1, hn1⟩
      · exact Or.inl h
      · obtain ⟨c6, hc6, hcl6⟩ := Cond.classLink_spec hown hl1 e.platform hpl
        obtain ⟨a8, b8, h1, h2, h3⟩ := hn1
        cases Option.some.inj (h1.symm.trans hcl)
        cases Option.some.inj (h2.symm.trans hc6)
        exact Or.inr ⟨hz0, _, hcl6, h3⟩)
  obtain ⟨g₀, hfr⟩ := X'.frames_eq
  have hcell9 : ((T.setVm vm').setFrames (.throwing q :: below)).heap[q]? = some ce := by
    show T.heap[q]? = some ce
    rw [hT]; exact hcell
  have hend : Ended ((T.setVm vm').setFrames (.throwing q :: below)) below (.threw q) := State.frames_setFrames _ (State.cur_lt_of_frames hfr)
  refine ⟨(T.setVm vm').setFrames (.throwing q :: below), ?_, .threw q, X'.here.running, hend, Or.inr ⟨q, rfl, E, ce, locs, hx _ hT (X'.ends _).1.alike, hcell9, hv, hcl, (X'.ends _).1, (X'.ends _).2.mono hc hs, hf⟩⟩
  rw [X.pushThrowing_eq]
  exact st
/-- a thing of a world lies in the heap -/
theorem vx_lt {D : va_G} {cl : List vw_C} {ws : va_W} {H1 : Heap} (h : va_P D cl ws H1) {k : Nat} {q : Nat × va_E} (hk : ws[k]? = some q) : q.1 < H1.size := (h k q hk).lt
end VXS
/-! ===== END ===== -/
/-! ===== BEGIN methods with a table of their own: called by a name, returning or throwing ===== -/
section VXH
/-! vx_backW, vx_callVX, vx_callSX, vx_callVW, vx_runVW, vx_runVX, vx_runSX, vx_ofWH follow the same proofs as their sisters above (Free/Laws.lean, Shelf42/LK1.lean); vx_outP calls Shelf42/NT130.lean (outThrough). -/
section
variable {l : Launch} {R : Room} {p : Program} {e : Env} {below : List Frame} {s : State} {sargs : Array Value} {y : MethodName} {len W9 : Nat}
theorem vx_backW {ws : List Cond} {rm : Room} {Pc : Array Value → State → Prop} {Qc : Array Value → State → Outcome → State → Prop} {XC : String → State → State → Prop} {mc ms : Nat} {free : Addr → Prop} {bytes : ByteArray} {maxL : Nat} {ret : Option FieldType} {hh : List (Nat × Nat × Nat × Nat)}
    (hM : vx_Met l y ws rm Pc Qc XC mc ms free) (hblind : FrameBlind Pc) (hrc : rm.cells = mc) (hrs : rm.slots = ms)
    (hframes : rm.frames + 1 ≤ R.frames) (hlocals : W9 + (maxL + 11) + rm.locals ≤ R.locals)
    (hws : ∀ w ∈ ws, ∀ a' U, s.WarmedH U.vm → w.before a' U = true) (hcode : Cond.codeWith y bytes maxL ret hh ∈ ws) (hinit : ∀ a' U, s.WarmedH U.vm → (Cond.initialized y.cls).before a' U = true) :
    vx_Back l R p e below s sargs y len W9 (PreOf R mc ms Pc) (PostOf Qc mc ms free) (vx_Post XC mc ms free) := by
  intro m meth c A g ig mk a X hg hsize hdg hW hn hp
  have h1 : (headSpec ws rm).pre.before a A.U = true := atoms_intro fun w hw => hws w hw _ _ X.warmed
  have h2 : (Cond.codeWith y bytes maxL ret hh).before a A.U = true := hws _ hcode _ _ X.warmed
  have h3 : (Cond.initialized y.cls).before a A.U = true := hinit _ _ X.warmed
  have h4 : A.cells + (headSpec ws rm).room.cells ≤ R.cells := by rw [show (headSpec ws rm).room.cells = mc from hrc]; exact hp.1
  have h5 : A.slots + (headSpec ws rm).room.slots ≤ R.slots := by rw [show (headSpec ws rm).room.slots = ms from hrs]; exact hp.2.1
  have hPc : Pc a (A.U.calling g mk a) := hblind _ _ _ _ hp.2.2
  obtain ⟨U, Ls, c0, s0⟩ := A
  dsimp only [Pt.U, Pt.locs, Pt.cells, Pt.slots] at h1 h2 h3 h4 h5 X hn hPc ⊢
  obtain ⟨m9, methY, cY, hn9, hmY, hcY, -, hlY, -⟩ := Cond.codeWith_spec h2
  cases Option.some.inj (hn9.symm.trans hn)
  obtain ⟨kY, hkY, -⟩ := className_of_methodNamed hn
  have hinitY : kY.init = .initialized := Cond.initialized_spec (findClass_of_methodNamed hn) hkY h3
  have h : At U g.method c below := by rw [hg]; exact X.here
  have hlocals9 : W9 + (maxL + 11) + (headSpec ws rm).room.locals ≤ R.locals := hlocals
  have happ : (headSpec ws rm).appliesLoose y e.platform (U.calling g mk a) = true :=
    Spec.appliesLoose_calling (g := g) h hdg hn hkY hinitY
      (X.room_calling (g := g) (R' := (headSpec ws rm).room) hsize hmY hcY hframes (by rw [hlY]; omega) h4 h5) h1
  obtain ⟨mid, hmid⟩ := h.above
  have hfr : (U.setTop g).frames = (.java g :: mid) ++ below := by rw [State.frames_setTop' g h.top, hmid]; rfl
  obtain ⟨o, s₂, hsteps, -, hend, hq⟩ := Steps.callFree hM p X.admits X.cas X.clock (acts := []) hfr happ hPc trivial
  have hq' : vx_Q Qc XC mc ms free a (U.calling g mk a) o s₂ := hq
  rw [State.frames_setTop' g h.top] at hend
  obtain ⟨g₀, hg0⟩ := Option.isSome_iff_exists.mp h.top
  obtain ⟨r, hr⟩ := State.topJava?_eq_some.mp hg0
  have hr' : (({ U with heap := s₂.heap, slotsUsed := s₂.slotsUsed } : State).setVm s₂.vm).frames = .java g₀ :: r := hr
  rcases hq' with ⟨hqc, L, hfe, hL⟩ | ⟨q, rfl, E, ce, L, hx, hce, hcv, hcl, hW₂, hsm, hL⟩
  · obtain ⟨⟨v, rfl⟩, hW₂, e2, q2, q3, q4, q5, q6⟩ := id hfe
    have e3 : s₂ = ({ (U.calling g mk a).setFrames s₂.frames with heap := s₂.heap, slotsUsed := s₂.slotsUsed } : State).setVm s₂.vm := by
      have : s₂ = ({ s₂ with vm := (U.calling g mk a).vm } : State).setVm s₂.vm := rfl
      rw [e2] at this
      exact this
    obtain ⟨c₂, i₂, len₂, hc₂, hd₂, hf₂⟩ := hend
    have hW' : U.WarmedH s₂.vm := hW₂
    have hcc : c₂ = c := by
      have h1 : s₂.code? g.method = U.code? g.method := by
        rw [State.code?_eq, State.code?_eq, hW'.alike.method?]
      exact Option.some.inj (hc₂.symm.trans (h1.trans h.code))
    subst hcc
    have hlen : len₂ = len := by rw [hdg] at hd₂; cases hd₂; rfl
    subst hlen
    have hs₂ : s₂ = (({ U with heap := s₂.heap, slotsUsed := s₂.slotsUsed } : State).setVm s₂.vm).setTop { g with pc := g.pc + len₂, stack := v.toList ++ g.stack } := by
      refine e3.trans ?_
      rw [hf₂, State.calling_eq h.top, State.setFrames_setFrames, State.setTop_of_frames _ hr', hr]
      rfl
    have hsame : U.sameButNew ({ U with heap := s₂.heap, slotsUsed := s₂.slotsUsed } : State) L mc ms := by
      refine ⟨?_, q2, q3, q4, q5, q6⟩
      obtain ⟨t, ht, -⟩ := State.frames_cons hr
      show ({ U with heap := s₂.heap, slotsUsed := s₂.slotsUsed } : State) = { U.setFrames U.frames with heap := s₂.heap, slotsUsed := s₂.slotsUsed }
      rw [State.setFrames_self ht]
    subst hg
    refine Or.inl ⟨v, ⟨(({ U with heap := s₂.heap, slotsUsed := s₂.slotsUsed } : State).setVm s₂.vm), Ls ++ L, c0 + mc, s0 + ms⟩,
      ⟨X.admits, X.cas, X.clock, X.frames, X.room, X.hears, X.method, X.code, (X.here.setHeapUsed s₂.heap s₂.slotsUsed).setVm hW'.alike, X.tail, State.WarmedH.trans X.warmed hW', X.limits, X.bytes, X.same.trans (hsame.setVm s.vm)⟩,
      ⟨g, mk, s₂, L, rfl, rfl, hqc, rfl, hL, rfl, rfl⟩, ?_⟩
    show Steps p.tables e below _ ((({ U with heap := s₂.heap, slotsUsed := s₂.slotsUsed } : State).setVm s₂.vm).setTop { g with pc := g.pc + len₂, stack := v.toList ++ g.stack })
    rw [← hs₂]
    exact hsteps
  · obtain ⟨e2, q2, q3, q4, q5, q6⟩ := id hsm
    have e3 : s₂ = ({ (U.calling g mk a).setFrames s₂.frames with heap := s₂.heap, slotsUsed := s₂.slotsUsed } : State).setVm s₂.vm := by
      have : s₂ = ({ s₂ with vm := (U.calling g mk a).vm } : State).setVm s₂.vm := rfl
      rw [e2] at this
      exact this
    have hf₂ : s₂.frames = .throwing q :: .java g :: U.frames.tail := hend
    have hW' : U.WarmedH s₂.vm := hW₂
    have hs₂ : s₂ = ((({ U with heap := s₂.heap, slotsUsed := s₂.slotsUsed } : State).setVm s₂.vm).setTop g).pushFrame (.throwing q) := by
      refine e3.trans ?_
      rw [hf₂, State.calling_eq h.top, State.setFrames_setFrames, State.pushFrame, State.frames_setTop _ hr', State.setTop_of_frames _ hr', State.setFrames_setFrames, hr]
      rfl
    have hsame : U.sameButNew ({ U with heap := s₂.heap, slotsUsed := s₂.slotsUsed } : State) L mc ms := by
      refine ⟨?_, q2, q3, q4, q5, q6⟩
      obtain ⟨t, ht, -⟩ := State.frames_cons hr
      show ({ U with heap := s₂.heap, slotsUsed := s₂.slotsUsed } : State) = { U.setFrames U.frames with heap := s₂.heap, slotsUsed := s₂.slotsUsed }
      rw [State.setFrames_self ht]
    subst hg
    refine Or.inr ⟨q, ⟨(({ U with heap := s₂.heap, slotsUsed := s₂.slotsUsed } : State).setVm s₂.vm), Ls ++ L, c0 + mc, s0 + ms⟩,
      ⟨X.admits, X.cas, X.clock, X.frames, X.room, X.hears, X.method, X.code, (X.here.setHeapUsed s₂.heap s₂.slotsUsed).setVm hW'.alike, X.tail, State.WarmedH.trans X.warmed hW', X.limits, X.bytes, X.same.trans (hsame.setVm s.vm)⟩,
      ⟨g, mk, s₂, L, E, ce, rfl, rfl, hx, hce, hcv, hcl, rfl, hL, rfl, rfl⟩, ?_⟩
    show Steps p.tables e below _ (((({ U with heap := s₂.heap, slotsUsed := s₂.slotsUsed } : State).setVm s₂.vm).setTop g).pushFrame (.throwing q))
    rw [← hs₂]
    exact hsteps
end
variable {p : Program} {l : Launch} {e : Env} {R : Room} {s : State} {m : MethodId} {args : Array Value} {below : List Frame} {meth : Method} {c : Code} {T : State} {H : Heap} {locs : List Loc} {cells slots : Nat}
theorem vx_callVX (X : Stand p l e R s m args below meth c T locs cells slots) (hexec : p.tables.exec = Jvm.exec) {own C : String} {index : Nat} {y : MethodName} {bytes : ByteArray} {maxL : Nat} {ret : Option FieldType} {hh : List (Nat × Nat × Nat × Nat)}
    (hown : s.vm.findClass own = some m.cls) (hlink : (Cond.methodLink own index y).before args s = true) (hinst : (Cond.instanceMethod y).before args s = true) (hsel : (Cond.selects C y y).before args s = true)
    (hcode : (Cond.codeWith y bytes maxL ret hh).before args s = true) (hy : y.cls ≠ "java/lang/invoke/MethodHandle" ∧ y.cls ≠ "java/lang/invoke/VarHandle")
    {W9 : Nat} {Pre : Pt → Array Value → Prop} {Post : Pt → Array Value → Option Value → Pt → Prop} {PostX : Pt → Array Value → Addr → Pt → Prop} (hK : vx_Back l R p e below s args y 3 W9 Pre Post PostX)
    {b : Addr} {cellB : Cell} (hcell : T.heap[b]? = some cellB) (hobj : cellB.vm.isStatics = false) (hcls : s.vm.findClass C = some cellB.cls)
    {g : JFrame} (hg : g.method = m) (hsize : g.locals.size = c.maxLocals) {argsL rest : List Value} (hlen : ∀ sig, parseMethodDescriptor y.desc = some sig → argsL.length = sig.parameters.length)
    (hstack : g.stack = argsL.reverse ++ .ref b :: rest) (hW : 2 * g.monitorRoom + (rest.map fun v => v.category).sum ≤ W9) (hdg : decode c.code g.pc = .ok (.invokevirtual index, 3))
    (hpre : ∀ vm₁, s.WarmedH vm₁ → Pre ⟨T.setVm vm₁, locs, cells, slots⟩ (Value.ref b :: argsL).toArray) :
    (∃ (v : Option Value) (vm₁ : Vm) (B : Pt), s.WarmedH vm₁ ∧ Stand p l e R s m args below meth c B.U B.locs B.cells B.slots ∧ Post ⟨T.setVm vm₁, locs, cells, slots⟩ (Value.ref b :: argsL).toArray v B ∧
      ∀ target, Steps p.tables e below (B.U.setTop { g with pc := g.pc + 3, stack := v.toList ++ rest }) target → Steps p.tables e below (T.setTop g) target) ∨
    (∃ (q : Addr) (vm₁ : Vm) (B : Pt), s.WarmedH vm₁ ∧ Stand p l e R s m args below meth c B.U B.locs B.cells B.slots ∧ PostX ⟨T.setVm vm₁, locs, cells, slots⟩ (Value.ref b :: argsL).toArray q B ∧
      Steps p.tables e below (T.setTop g) ((B.U.setTop { g with stack := rest }).pushFrame (.throwing q))) := by
  obtain ⟨mk, methM, hnamed, hmethM, hstM, habM⟩ := Cond.instanceMethod_spec hinst
  obtain ⟨m8, methM', cM, hn8, hmethM', -, -, -, -, -, -, hsigM⟩ := Cond.codeWith_spec hcode
  cases Option.some.inj (hn8.symm.trans hnamed)
  cases hmethM.symm.trans hmethM'
  obtain ⟨c2, r2, m2, q1, q2, q3, q4, kP, hkP, hkPi⟩ := Cond.selects_spec hsel
  cases hcls.symm.trans q1
  cases (State.methodFound?_of_named hnamed hy).symm.trans q2
  cases hnamed.symm.trans q3
  have hselP : selectMethod e.platform s.vm cellB.cls mk = .method mk := by rw [Launch.admits_selectMethod X.admits]; exact q4
  obtain ⟨vm₁, X₁, hstep₁⟩ := X.invokevirtual hexec hown hlink hnamed hmethM hstM hkP hkPi hy (a := b) (cell := cellB) hcell
    (fun z h => by rw [h] at hobj; cases hobj) hselP hmethM habM hkP hkPi (g := g) hg (argsL := argsL) (rest := rest) (hlen _ hsigM) hstack hdg
  rcases hK m meth c ⟨T.setVm vm₁, locs, cells, slots⟩ { g with stack := rest } (.invokevirtual index) mk (Value.ref b :: argsL).toArray X₁ hg hsize hdg hW (X₁.named hnamed) (hpre vm₁ X₁.warmed) with ⟨v, B, X', hpost, hsteps⟩ | ⟨q, B, X', hpost, hsteps⟩
  · exact Or.inl ⟨v, vm₁, B, X₁.warmed, X', hpost, fun target h => hstep₁ _ fun acts => by rw [doInvoke_state]; exact hsteps.trans h⟩
  · exact Or.inr ⟨q, vm₁, B, X₁.warmed, X', hpost, hstep₁ _ fun acts => by rw [doInvoke_state]; exact hsteps⟩
theorem vx_callSX (X : Stand p l e R s m args below meth c T locs cells slots) (hexec : p.tables.exec = Jvm.exec) {own : String} {index : Nat} {y : MethodName} {bytes : ByteArray} {maxL : Nat} {ret : Option FieldType} {hh : List (Nat × Nat × Nat × Nat)}
    (hown : s.vm.findClass own = some m.cls) (hlink : (Cond.methodLink own index y).before args s = true) (hstat : (Cond.static y).before args s = true) (hinit : (Cond.initialized y.cls).before args s = true)
    (hcode : (Cond.codeWith y bytes maxL ret hh).before args s = true) (hy : y.cls ≠ "java/lang/invoke/MethodHandle" ∧ y.cls ≠ "java/lang/invoke/VarHandle")
    {W9 : Nat} {Pre : Pt → Array Value → Prop} {Post : Pt → Array Value → Option Value → Pt → Prop} {PostX : Pt → Array Value → Addr → Pt → Prop} (hK : vx_Back l R p e below s args y 3 W9 Pre Post PostX)
    {g : JFrame} (hg : g.method = m) (hsize : g.locals.size = c.maxLocals) {argsL rest : List Value} (hlen : ∀ sig, parseMethodDescriptor y.desc = some sig → argsL.length = sig.parameters.length)
    (hstack : g.stack = argsL.reverse ++ rest) (hW : 2 * g.monitorRoom + (rest.map fun v => v.category).sum ≤ W9) (hdg : decode c.code g.pc = .ok (.invokestatic index, 3))
    (hpre : ∀ vm₁, s.WarmedH vm₁ → Pre ⟨T.setVm vm₁, locs, cells, slots⟩ argsL.toArray) :
    (∃ (v : Option Value) (vm₁ : Vm) (B : Pt), s.WarmedH vm₁ ∧ Stand p l e R s m args below meth c B.U B.locs B.cells B.slots ∧ Post ⟨T.setVm vm₁, locs, cells, slots⟩ argsL.toArray v B ∧
      ∀ target, Steps p.tables e below (B.U.setTop { g with pc := g.pc + 3, stack := v.toList ++ rest }) target → Steps p.tables e below (T.setTop g) target) ∨
    (∃ (q : Addr) (vm₁ : Vm) (B : Pt), s.WarmedH vm₁ ∧ Stand p l e R s m args below meth c B.U B.locs B.cells B.slots ∧ PostX ⟨T.setVm vm₁, locs, cells, slots⟩ argsL.toArray q B ∧
      Steps p.tables e below (T.setTop g) ((B.U.setTop { g with stack := rest }).pushFrame (.throwing q))) := by
  obtain ⟨mk, methM, cM, hnamed, hmethM, -, -, -, -, -, -, hsigM⟩ := Cond.codeWith_spec hcode
  have hstatic : methM.isStatic = true := Cond.static_spec hnamed hmethM hstat
  obtain ⟨kP, hkP, -⟩ := className_of_methodNamed hnamed
  have hinitP : kP.init = .initialized := Cond.initialized_spec (findClass_of_methodNamed hnamed) hkP hinit
  obtain ⟨vm₁, X₁, hstep₁⟩ := X.invokestatic hexec hown hlink hnamed hmethM hstatic hkP hinitP hy (g := g) hg (argsL := argsL) (rest := rest) (hlen _ hsigM) hstack hdg
  rcases hK m meth c ⟨T.setVm vm₁, locs, cells, slots⟩ { g with stack := rest } (.invokestatic index) mk argsL.toArray X₁ hg hsize hdg hW (X₁.named hnamed) (hpre vm₁ X₁.warmed) with ⟨v, B, X', hpost, hsteps⟩ | ⟨q, B, X', hpost, hsteps⟩
  · exact Or.inl ⟨v, vm₁, B, X₁.warmed, X', hpost, fun target h => hstep₁ _ fun acts => by rw [doInvoke_state]; exact hsteps.trans h⟩
  · exact Or.inr ⟨q, vm₁, B, X₁.warmed, X', hpost, hstep₁ _ fun acts => by rw [doInvoke_state]; exact hsteps⟩
theorem vx_callVW (X : Stand p l e R s m args below meth c T locs cells slots) (hexec : p.tables.exec = Jvm.exec) {own C : String} {index : Nat} {y : MethodName} {bytes : ByteArray} {maxL : Nat} {ret : Option FieldType} {hh : List (Nat × Nat × Nat × Nat)}
    (hown : s.vm.findClass own = some m.cls) (hlink : (Cond.methodLink own index y).before args s = true) (hinst : (Cond.instanceMethod y).before args s = true) (hsel : (Cond.selects C y y).before args s = true)
    (hcode : (Cond.codeWith y bytes maxL ret hh).before args s = true) (hy : y.cls ≠ "java/lang/invoke/MethodHandle" ∧ y.cls ≠ "java/lang/invoke/VarHandle")
    {W9 : Nat} {Pre : Pt → Array Value → Prop} {Post : Pt → Array Value → Option Value → Pt → Prop} (hK : Back l R p e below s args y 3 W9 Pre Post)
    {b : Addr} {cellB : Cell} (hcell : T.heap[b]? = some cellB) (hobj : cellB.vm.isStatics = false) (hcls : s.vm.findClass C = some cellB.cls)
    {g : JFrame} (hg : g.method = m) (hsize : g.locals.size = c.maxLocals) {argsL rest : List Value} (hlen : ∀ sig, parseMethodDescriptor y.desc = some sig → argsL.length = sig.parameters.length)
    (hstack : g.stack = argsL.reverse ++ .ref b :: rest) (hW : 2 * g.monitorRoom + (rest.map fun v => v.category).sum ≤ W9) (hdg : decode c.code g.pc = .ok (.invokevirtual index, 3))
    (hpre : ∀ vm₁, s.WarmedH vm₁ → Pre ⟨T.setVm vm₁, locs, cells, slots⟩ (Value.ref b :: argsL).toArray) :
    ∃ (v : Option Value) (vm₁ : Vm) (B : Pt), s.WarmedH vm₁ ∧ Stand p l e R s m args below meth c B.U B.locs B.cells B.slots ∧ Post ⟨T.setVm vm₁, locs, cells, slots⟩ (Value.ref b :: argsL).toArray v B ∧
      ∀ target, Steps p.tables e below (B.U.setTop { g with pc := g.pc + 3, stack := v.toList ++ rest }) target → Steps p.tables e below (T.setTop g) target := by
  obtain ⟨mk, methM, hnamed, hmethM, hstM, habM⟩ := Cond.instanceMethod_spec hinst
  obtain ⟨m8, methM', cM, hn8, hmethM', -, -, -, -, -, -, hsigM⟩ := Cond.codeWith_spec hcode
  cases Option.some.inj (hn8.symm.trans hnamed)
  cases hmethM.symm.trans hmethM'
  obtain ⟨c2, r2, m2, q1, q2, q3, q4, kP, hkP, hkPi⟩ := Cond.selects_spec hsel
  cases hcls.symm.trans q1
  cases (State.methodFound?_of_named hnamed hy).symm.trans q2
  cases hnamed.symm.trans q3
  have hselP : selectMethod e.platform s.vm cellB.cls mk = .method mk := by rw [Launch.admits_selectMethod X.admits]; exact q4
  obtain ⟨vm₁, X₁, hstep₁⟩ := X.invokevirtual hexec hown hlink hnamed hmethM hstM hkP hkPi hy (a := b) (cell := cellB) hcell
    (fun z h => by rw [h] at hobj; cases hobj) hselP hmethM habM hkP hkPi (g := g) hg (argsL := argsL) (rest := rest) (hlen _ hsigM) hstack hdg
  obtain ⟨v, B, X', hpost, hsteps⟩ := hK m meth c ⟨T.setVm vm₁, locs, cells, slots⟩ { g with stack := rest } (.invokevirtual index) mk (Value.ref b :: argsL).toArray X₁ hg hsize hdg hW (X₁.named hnamed) (hpre vm₁ X₁.warmed)
  exact ⟨v, vm₁, B, X₁.warmed, X', hpost, fun target h => hstep₁ _ fun acts => by rw [doInvoke_state]; exact hsteps.trans h⟩
abbrev vx_CVW (R : Room) (s : State) (args : Array Value) (own C : String) (index : Nat) (y : MethodName) (bytes : ByteArray) (maxL : Nat) (ret : Option FieldType) (hh : List (Nat × Nat × Nat × Nat)) (ws : List Cond) (rm : Room) (mc ms n : Nat) : Prop :=
  (rm.cells = mc ∧ rm.slots = ms ∧ rm.frames + 1 ≤ R.frames ∧ 8 + (maxL + 11) + rm.locals ≤ R.locals ∧ (∀ w ∈ ws, ∀ (a' : Array Value) (U : State), s.WarmedH U.vm → w.before a' U = true) ∧ Cond.codeWith y bytes maxL ret hh ∈ ws) ∧
  (Cond.codeWith y bytes maxL ret hh).before args s = true ∧ (Cond.initialized y.cls).before args s = true ∧ (y.cls ≠ "java/lang/invoke/MethodHandle" ∧ y.cls ≠ "java/lang/invoke/VarHandle") ∧
  (∀ sig, parseMethodDescriptor y.desc = some sig → n = sig.parameters.length) ∧ (Cond.methodLink own index y).before args s = true ∧ (Cond.instanceMethod y).before args s = true ∧ (Cond.selects C y y).before args s = true
theorem vx_cwVW {own C : String} {index maxL mc ms : Nat} {y : MethodName} {bytes : ByteArray} {ret : Option FieldType} {hh : List (Nat × Nat × Nat × Nat)} {Ts ws ws' : List Cond} {rm : Room} (n : Nat) (ht : ∀ w ∈ Ts, w.before args s = true) (hT : GoodIn Ts (wsV own index C y ws)) (hw : ws = Cond.codeWith y bytes maxL ret hh :: ws') (hrc : rm.cells = mc) (hrs : rm.slots = ms)
    (hd : y.cls = C ∧ y.cls ≠ "java/lang/invoke/MethodHandle" ∧ y.cls ≠ "java/lang/invoke/VarHandle" ∧ (parseMethodDescriptor y.desc).map (fun d => d.parameters.length) = some n) (hR : rm.frames + 1 ≤ R.frames ∧ 8 + (maxL + 11) + rm.locals ≤ R.locals) :
    vx_CVW R s args own C index y bytes maxL ret hh ws rm mc ms n := by
  obtain ⟨hC, hd⟩ := hd
  subst hC
  have ok : ∀ w ∈ wsV own index y.cls y ws, w.before args s = true := fun w h => ht w (hT w h).1
  have hG : GoodIn Ts ws := fun w h => hT w (by unfold wsV; exact List.mem_append_right _ h)
  have hc : Cond.codeWith y bytes maxL ret hh ∈ ws := by rw [hw]; exact List.mem_cons_self
  refine ⟨⟨hrc, hrs, hR.1, hR.2, pay_in ht hG, hc⟩, ht _ (hG _ hc).1, ok _ (by simp [wsV]), ⟨hd.1, hd.2.1⟩, fun sig h => ?_, ok _ (by simp [wsV]), ok _ (by simp [wsV]), ok _ (by simp [wsV])⟩
  have h2 := hd.2.2
  rw [h] at h2
  exact (Option.some.inj h2).symm
theorem vx_runVW {y : MethodName} {bytes cc : ByteArray} {maxL nL mc ms n index : Nat} {ret : Option FieldType} {hh : List (Nat × Nat × Nat × Nat)} {ws : List Cond} {rm : Room} {Pc : Array Value → State → Prop} {Qc : Array Value → State → Outcome → State → Prop} {free : Addr → Prop} {Ts : List Cond} {own C : String} {b : Addr} {As rest : List Value} {g : JFrame}
    (S : CallFix p m c cc nL s args Ts own) (hM : Met l y ws rm Pc Qc mc ms free) (cw : vx_CVW R s args own C index y bytes maxL ret hh ws rm mc ms n) (hp : PreV s H C b Pc As)
    (hg : g.method = m) (hn : As.length = n) (hsize : g.locals.size = nL) (hstack : g.stack = As.reverse ++ .ref b :: rest) (hW : 2 * g.monitorRoom + (rest.map fun v => v.category).sum ≤ 8) (hdg : decode cc g.pc = .ok (.invokevirtual index, 3)) (hf : cells + mc ≤ R.cells ∧ slots + ms ≤ R.slots) :
    va_Run p l e R s m args below meth c H locs cells slots mc ms g rest (Qc (Value.ref b :: As).toArray) free := by
  obtain ⟨⟨hrc, hrs, hfr, hlo, hws, hcw⟩, hcode, hini, hy, hlen, hl, hin, hse⟩ := cw
  have hK : Back l R p e below s args y 3 8 (PreOf R mc ms Pc) (PostOf Qc mc ms free) := va_backW (hh := hh) (bytes := bytes) (maxL := maxL) (ret := ret) hM hp.1 hrc hrs hfr hlo hws hcw (fun a' U hW => word_at hW (Or.inl (by first | rfl | simp [Cond.onTables, Cond.keeps, Cond.steady])) hini)
  obtain ⟨hx, hb, hml, ho, -⟩ := S
  obtain ⟨-, ⟨cellB, hcB, hoB, hclB⟩, hPc⟩ := hp
  intro T hT X
  obtain ⟨v, vm₁, ⟨U', l2, c2, s2⟩, hW₁, X', ⟨g', mk, t, L, e1, e2, hq, h1, hL, h2, h3⟩, st⟩ := vx_callVW X hx (C := C) (hh := hh) (bytes := bytes) (maxL := maxL) (ret := ret) ho hl hin hse hcode hy hK (by rw [hT]; exact hcB) hoB hclB hg (hsize.trans hml.symm) (argsL := As) (rest := rest) (fun sig h => hn.trans (hlen sig h)) hstack hW (by rw [hb]; exact hdg)
    (fun vm₁ hW₁ => ⟨hf.1, hf.2, hPc (T.setVm vm₁) hT hW₁⟩)
  dsimp only [Pt.U, Pt.locs, Pt.cells, Pt.slots] at X' e1 e2 h1 h2 h3 st
  subst h1; subst h2; subst h3
  exact ⟨v, (T.setVm vm₁).calling g' mk (Value.ref b :: As).toArray, t, U', L, hT, X', hL, e1, e2, hq, st⟩
section
variable {y : MethodName} {bytes cc : ByteArray} {maxL nL mc ms n index : Nat} {ret : Option FieldType} {ws : List Cond} {rm : Room} {Pc : Array Value → State → Prop} {Qc : Array Value → State → Outcome → State → Prop} {XC : String → State → State → Prop} {free : Addr → Prop} {Ts : List Cond} {own C : String} {b : Addr} {As rest : List Value} {g : JFrame}
theorem vx_runVX {hh : List (Nat × Nat × Nat × Nat)} (S : CallFix p m c cc nL s args Ts own) (hM : vx_Met l y ws rm Pc Qc XC mc ms free) (cw : vx_CVW R s args own C index y bytes maxL ret hh ws rm mc ms n) (hp : PreV s H C b Pc As)
    (hg : g.method = m) (hn : As.length = n) (hsize : g.locals.size = nL) (hstack : g.stack = As.reverse ++ .ref b :: rest) (hW : 2 * g.monitorRoom + (rest.map fun v => v.category).sum ≤ 8) (hdg : decode cc g.pc = .ok (.invokevirtual index, 3)) (hf : cells + mc ≤ R.cells ∧ slots + ms ≤ R.slots) :
    vx_Run p l e R s m args below meth c H locs cells slots mc ms g rest (Qc (Value.ref b :: As).toArray) XC free := by
  obtain ⟨⟨hrc, hrs, hfr, hlo, hws, hcw⟩, hcode, hini, hy, hlen, hl, hin, hse⟩ := cw
  have hK : vx_Back l R p e below s args y 3 8 (PreOf R mc ms Pc) (PostOf Qc mc ms free) (vx_Post XC mc ms free) := vx_backW (hh := hh) (bytes := bytes) (maxL := maxL) (ret := ret) hM hp.1 hrc hrs hfr hlo hws hcw (fun a' U hW => word_at hW (Or.inl (by first | rfl | simp [Cond.onTables, Cond.keeps, Cond.steady])) hini)
  obtain ⟨hx, hb, hml, ho, -⟩ := S
  obtain ⟨-, ⟨cellB, hcB, hoB, hclB⟩, hPc⟩ := hp
  intro T hT X
  rcases vx_callVX X hx (C := C) (hh := hh) (bytes := bytes) (maxL := maxL) (ret := ret) ho hl hin hse hcode hy hK (by rw [hT]; exact hcB) hoB hclB hg (hsize.trans hml.symm) (argsL := As) (rest := rest) (fun sig h => hn.trans (hlen sig h)) hstack hW (by rw [hb]; exact hdg)
    (fun vm₁ hW₁ => ⟨hf.1, hf.2, hPc (T.setVm vm₁) hT hW₁⟩) with ⟨v, vm₁, ⟨U', l2, c2, s2⟩, hW₁, X', ⟨g', mk, t, L, e1, e2, hq, h1, hL, h2, h3⟩, st⟩ | ⟨q, vm₁, ⟨U', l2, c2, s2⟩, hW₁, X', ⟨g', mk, t, L, E, ce, e1, e2, hq, hce, hcv, hcl, h1, hL, h2, h3⟩, st⟩
  · dsimp only [Pt.U, Pt.locs, Pt.cells, Pt.slots] at X' e1 e2 h1 h2 h3 st
    subst h1; subst h2; subst h3
    exact Or.inl ⟨v, (T.setVm vm₁).calling g' mk (Value.ref b :: As).toArray, t, U', L, hT, X', hL, e1, e2, hq, st⟩
  · dsimp only [Pt.U, Pt.locs, Pt.cells, Pt.slots] at X' e1 e2 h1 h2 h3 st hcl
    subst h1; subst h2; subst h3
    exact Or.inr ⟨q, (T.setVm vm₁).calling g' mk (Value.ref b :: As).toArray, t, U', L, E, ce, hT, X', hL, e1, e2, hq, hce, hcv, vx_cls hW₁ hcl, st⟩
theorem vx_runSX {hh : List (Nat × Nat × Nat × Nat)} (S : CallFix p m c cc nL s args Ts own) (hM : vx_Met l y ws rm Pc Qc XC mc ms free) (cw : vx_CSW R s args own index y bytes maxL ret hh ws rm mc ms n) (hp : PreS s H Pc As)
    (hg : g.method = m) (hn : As.length = n) (hsize : g.locals.size = nL) (hstack : g.stack = As.reverse ++ rest) (hW : 2 * g.monitorRoom + (rest.map fun v => v.category).sum ≤ 8) (hdg : decode cc g.pc = .ok (.invokestatic index, 3)) (hf : cells + mc ≤ R.cells ∧ slots + ms ≤ R.slots) :
    vx_Run p l e R s m args below meth c H locs cells slots mc ms g rest (Qc As.toArray) XC free := by
  obtain ⟨⟨hrc, hrs, hfr, hlo, hws, hcw⟩, hcode, hini, hy, hlen, hl, hstt⟩ := cw
  have hK : vx_Back l R p e below s args y 3 8 (PreOf R mc ms Pc) (PostOf Qc mc ms free) (vx_Post XC mc ms free) := vx_backW (hh := hh) (bytes := bytes) (maxL := maxL) (ret := ret) hM hp.1 hrc hrs hfr hlo hws hcw (fun a' U hW => word_at hW (Or.inl (by first | rfl | simp [Cond.onTables, Cond.keeps, Cond.steady])) hini)
  obtain ⟨hx, hb, hml, ho, -⟩ := S
  intro T hT X
  rcases vx_callSX X hx (hh := hh) (bytes := bytes) (maxL := maxL) (ret := ret) ho hl hstt hini hcode hy hK hg (hsize.trans hml.symm) (argsL := As) (rest := rest) (fun sig h => hn.trans (hlen sig h)) hstack hW (by rw [hb]; exact hdg)
    (fun vm₁ hW₁ => ⟨hf.1, hf.2, hp.2 (T.setVm vm₁) hT hW₁⟩) with ⟨v, vm₁, ⟨U', l2, c2, s2⟩, hW₁, X', ⟨g', mk, t, L, e1, e2, hq, h1, hL, h2, h3⟩, st⟩ | ⟨q, vm₁, ⟨U', l2, c2, s2⟩, hW₁, X', ⟨g', mk, t, L, E, ce, e1, e2, hq, hce, hcv, hcl, h1, hL, h2, h3⟩, st⟩
  · dsimp only [Pt.U, Pt.locs, Pt.cells, Pt.slots] at X' e1 e2 h1 h2 h3 st
    subst h1; subst h2; subst h3
    exact Or.inl ⟨v, (T.setVm vm₁).calling g' mk As.toArray, t, U', L, hT, X', hL, e1, e2, hq, st⟩
  · dsimp only [Pt.U, Pt.locs, Pt.cells, Pt.slots] at X' e1 e2 h1 h2 h3 st hcl
    subst h1; subst h2; subst h3
    exact Or.inr ⟨q, (T.setVm vm₁).calling g' mk As.toArray, t, U', L, E, ce, hT, X', hL, e1, e2, hq, hce, hcv, vx_cls hW₁ hcl, st⟩
end
end VXH
theorem vx_ofWH {l : Launch} {y : MethodName} {ws ws' : List Cond} {rm : Room} {Pc : Array Value → State → Prop} {Qc : Array Value → State → Outcome → State → Prop} {XC : String → State → State → Prop} {mc ms : Nat} {free : Addr → Prop} {cc : ByteArray} {maxL : Nat} {ret : Option FieldType} {hh : List (Nat × Nat × Nat × Nat)}
    (hy : plainName y.cls = true) (hw : ws = Cond.codeWith y cc maxL ret hh :: ws')
    (body : ∀ p e s m args below meth c s₁, BodyLoose p l y (headSpec ws rm) cc maxL ret e s m args below meth c s₁ → c.maxLocals = maxL → Pc args s →
      W p l e (headSpec ws rm).room s m args below meth c s.heap [] 0 0 (vx_MQ below Qc XC args s mc ms free) (entryFrame m args maxL)) : vx_Met l y ws rm Pc Qc XC mc ms free := by
  refine MetFree.of_bodyS (code := cc) (maxLocals := maxL) (ret := ret) hy ?_ ?_
  · intro args s m h hn
    obtain ⟨m9, meth, c, hn9, h1, h2, h3, h4, -, h5, h6, -⟩ := Cond.codeWith_spec (atoms_spec (ws := ws) h _ (by rw [hw]; exact List.mem_cons_self))
    cases hn.symm.trans hn9
    exact ⟨meth, c, h1, h2, h3, h4, h5, h6⟩
  · intro p e s m args below meth c s₁ B hml hP _
    have hh0 : s₁.heap = s.heap := by rw [B.state]; rfl
    obtain ⟨t, a1, o, b1, b2, b3⟩ := body p e s m args below meth c s₁ B hml hP s₁ hh0 (Stand.of_body B)
    exact ⟨t, o, a1, b1, b2, b3⟩
/-! ===== END ===== -/

/-! ===== BEGIN printed: names, fields, word lists, decode rows ===== -/
def RX0 : String := "ThirdOfTheLast$Flavour"
def TX0 : u_T := fun k => match k with
  | 0 => ("ThirdOfTheLast$Flavour", "above", "[J", true)
  | 1 => ("ThirdOfTheLast$Flavour", "below", "J", false)
  | _ => ("ThirdOfTheLast$Flavour", "count", "I", false)
def tyX0 : Nat → FieldType := fun k => match k with
  | 0 => .array .long
  | 1 => .long
  | _ => .int
abbrev wsX00 : List Cond := u_ws RX0 TX0 3
theorem nmX0 : ∀ a, a < 3 → ∀ b, b < 3 → a ≠ b → (TX0 a).2.1 ≠ (TX0 b).2.1 := by decide +kernel
theorem tyX0_ok : ∀ k, k < 3 → parseFieldDescriptor (TX0 k).2.2.1 = some (tyX0 k) := by decide +kernel
abbrev cX0_init : ByteArray := prog_2_method_1_code
def yX0_init : MethodName := ⟨RX0, "<init>", "()V"⟩
abbrev cX0_clear : ByteArray := prog_2_method_2_code
def yX0_clear : MethodName := ⟨RX0, "clear", "()V"⟩
abbrev cX0_become : ByteArray := prog_2_method_3_code
def yX0_become : MethodName := ⟨RX0, "become", "(LThirdOfTheLast$Flavour;)V"⟩
abbrev cX0_hasRoom : ByteArray := prog_2_method_4_code
def yX0_hasRoom : MethodName := ⟨RX0, "hasRoom", "()Z"⟩
abbrev cX0_takeIn : ByteArray := prog_2_method_5_code
def yX0_takeIn : MethodName := ⟨RX0, "takeIn", "(II)V"⟩
abbrev cX0_takeCode : ByteArray := prog_2_method_6_code
def yX0_takeCode : MethodName := ⟨RX0, "takeCode", "(III)V"⟩
abbrev cX0_totalAbove : ByteArray := prog_2_method_7_code
def yX0_totalAbove : MethodName := ⟨RX0, "totalAbove", "()J"⟩
abbrev cX0_portionOf : ByteArray := prog_2_method_8_code
def yX0_portionOf : MethodName := ⟨RX0, "portionOf", "(I)I"⟩
abbrev cX0_isOver : ByteArray := prog_2_method_9_code
def yX0_isOver : MethodName := ⟨RX0, "isOver", "(II)Z"⟩
abbrev cX0_isHarmful : ByteArray := prog_2_method_10_code
def yX0_isHarmful : MethodName := ⟨RX0, "isHarmful", "(II)Z"⟩
abbrev cX0_mostTaste : ByteArray := prog_2_method_11_code
def yX0_mostTaste : MethodName := ⟨RX0, "mostTaste", "()I"⟩
abbrev cX0_isLike : ByteArray := prog_2_method_12_code
def yX0_isLike : MethodName := ⟨RX0, "isLike", "(LThirdOfTheLast$Flavour;)Z"⟩
def RX1 : String := "ThirdOfTheLast$Kitchen"
def TX1 : u_T := fun k => match k with
  | 0 => ("ThirdOfTheLast$Kitchen", "pots", "[LThirdOfTheLast$Pot;", true)
  | _ => ("ThirdOfTheLast$Kitchen", "size", "I", false)
def tyX1 : Nat → FieldType := fun k => match k with
  | 0 => .array (.object "ThirdOfTheLast$Pot")
  | _ => .int
abbrev wsX10 : List Cond := u_ws RX1 TX1 2
theorem nmX1 : ∀ a, a < 2 → ∀ b, b < 2 → a ≠ b → (TX1 a).2.1 ≠ (TX1 b).2.1 := by decide +kernel
theorem tyX1_ok : ∀ k, k < 2 → parseFieldDescriptor (TX1 k).2.2.1 = some (tyX1 k) := by decide +kernel
abbrev cX1_init : ByteArray := prog_3_method_1_code
def yX1_init : MethodName := ⟨RX1, "<init>", "()V"⟩
abbrev cX1_has : ByteArray := prog_3_method_2_code
def yX1_has : MethodName := ⟨RX1, "has", "(I)Z"⟩
abbrev cX1_become : ByteArray := prog_3_method_3_code
def yX1_become : MethodName := ⟨RX1, "become", "(LThirdOfTheLast$Kitchen;)V"⟩
abbrev cX1_addPot : ByteArray := prog_3_method_4_code
def yX1_addPot : MethodName := ⟨RX1, "addPot", "()Z"⟩
abbrev cX1_digitsBehind : ByteArray := prog_3_method_5_code
def yX1_digitsBehind : MethodName := ⟨RX1, "digitsBehind", "(I)I"⟩
abbrev cX1_brokenAt : ByteArray := prog_3_method_6_code
def yX1_brokenAt : MethodName := ⟨RX1, "brokenAt", "(LThirdOfTheLast$Shelf;)I"⟩
abbrev cX1_carryOut : ByteArray := prog_3_method_7_code
def yX1_carryOut : MethodName := ⟨RX1, "carryOut", "(LThirdOfTheLast$Shelf;I)Z"⟩
abbrev cX1_cookIn : ByteArray := prog_3_method_8_code
def yX1_cookIn : MethodName := ⟨RX1, "cookIn", "(III)Z"⟩
abbrev cX1_renew : ByteArray := prog_3_method_9_code
def yX1_renew : MethodName := ⟨RX1, "renew", "(I)Z"⟩
abbrev cX1_makeAlike : ByteArray := prog_3_method_10_code
def yX1_makeAlike : MethodName := ⟨RX1, "makeAlike", "(II)Z"⟩
def RX2 : String := "ThirdOfTheLast$Mind"
def TX2 : u_T := fun k => match k with
  | 0 => ("ThirdOfTheLast$Mind", "pots", "[LThirdOfTheLast$Flavour;", true)
  | 1 => ("ThirdOfTheLast$Mind", "before", "[LThirdOfTheLast$Flavour;", true)
  | 2 => ("ThirdOfTheLast$Mind", "size", "I", false)
  | 3 => ("ThirdOfTheLast$Mind", "bans", "I", false)
  | 4 => ("ThirdOfTheLast$Mind", "p", "I", false)
  | 5 => ("ThirdOfTheLast$Mind", "ways", "I", false)
  | _ => ("ThirdOfTheLast$Mind", "firstWay", "I", false)
def tyX2 : Nat → FieldType := fun k => match k with
  | 0 => .array (.object "ThirdOfTheLast$Flavour")
  | 1 => .array (.object "ThirdOfTheLast$Flavour")
  | 2 => .int
  | 3 => .int
  | 4 => .int
  | 5 => .int
  | _ => .int
abbrev wsX20 : List Cond := u_ws RX2 TX2 7
theorem nmX2 : ∀ a, a < 7 → ∀ b, b < 7 → a ≠ b → (TX2 a).2.1 ≠ (TX2 b).2.1 := by decide +kernel
theorem tyX2_ok : ∀ k, k < 7 → parseFieldDescriptor (TX2 k).2.2.1 = some (tyX2 k) := by decide +kernel
abbrev cX2_init : ByteArray := prog_4_method_1_code
def yX2_init : MethodName := ⟨RX2, "<init>", "()V"⟩
abbrev cX2_thinkOf : ByteArray := prog_4_method_2_code
def yX2_thinkOf : MethodName := ⟨RX2, "thinkOf", "(LThirdOfTheLast$Kitchen;II)V"⟩
abbrev cX2_firstHarm : ByteArray := prog_4_method_3_code
def yX2_firstHarm : MethodName := ⟨RX2, "firstHarm", "(LThirdOfTheLast$Shelf;)I"⟩
abbrev cX2_countWays : ByteArray := prog_4_method_4_code
def yX2_countWays : MethodName := ⟨RX2, "countWays", "(LThirdOfTheLast$Shelf;)V"⟩
abbrev cX2_spread : ByteArray := prog_4_method_5_code
def yX2_spread : MethodName := ⟨RX2, "spread", "(LThirdOfTheLast$Mind;LThirdOfTheLast$Shelf;II)V"⟩
abbrev cX2_staysGood : ByteArray := prog_4_method_6_code
def yX2_staysGood : MethodName := ⟨RX2, "staysGood", "(LThirdOfTheLast$Flavour;LThirdOfTheLast$Shelf;I)Z"⟩
def RX3 : String := "ThirdOfTheLast$Pot"
def TX3 : u_T := fun k => match k with
  | 0 => ("ThirdOfTheLast$Pot", "flavour", "LThirdOfTheLast$Flavour;", true)
  | 1 => ("ThirdOfTheLast$Pot", "kinds", "[I", true)
  | _ => ("ThirdOfTheLast$Pot", "figures", "[I", true)
def tyX3 : Nat → FieldType := fun k => match k with
  | 0 => .object "ThirdOfTheLast$Flavour"
  | 1 => .array .int
  | _ => .array .int
abbrev wsX30 : List Cond := u_ws RX3 TX3 3
theorem nmX3 : ∀ a, a < 3 → ∀ b, b < 3 → a ≠ b → (TX3 a).2.1 ≠ (TX3 b).2.1 := by decide +kernel
theorem tyX3_ok : ∀ k, k < 3 → parseFieldDescriptor (TX3 k).2.2.1 = some (tyX3 k) := by decide +kernel
abbrev cX3_init : ByteArray := prog_5_method_1_code
def yX3_init : MethodName := ⟨RX3, "<init>", "()V"⟩
abbrev cX3_become : ByteArray := prog_5_method_2_code
def yX3_become : MethodName := ⟨RX3, "become", "(LThirdOfTheLast$Pot;)V"⟩
abbrev cX3_cookIn : ByteArray := prog_5_method_3_code
def yX3_cookIn : MethodName := ⟨RX3, "cookIn", "(II)Z"⟩
abbrev cX3_hasDish : ByteArray := prog_5_method_4_code
def yX3_hasDish : MethodName := ⟨RX3, "hasDish", "(I)Z"⟩
abbrev cX3_kindOf : ByteArray := prog_5_method_5_code
def yX3_kindOf : MethodName := ⟨RX3, "kindOf", "(I)I"⟩
abbrev cX3_figureOf : ByteArray := prog_5_method_6_code
def yX3_figureOf : MethodName := ⟨RX3, "figureOf", "(I)I"⟩
abbrev cX3_leftAbove : ByteArray := prog_5_method_7_code
def yX3_leftAbove : MethodName := ⟨RX3, "leftAbove", "(I)J"⟩
abbrev cX3_howManyOf : ByteArray := prog_5_method_8_code
def yX3_howManyOf : MethodName := ⟨RX3, "howManyOf", "(I)I"⟩
def RX4 : String := "ThirdOfTheLast$Shelf"
def TX4 : u_T := fun k => match k with
  | 0 => ("ThirdOfTheLast$Shelf", "held", "I", false)
  | 1 => ("ThirdOfTheLast$Shelf", "kind", "I", false)
  | 2 => ("ThirdOfTheLast$Shelf", "figure", "I", false)
  | 3 => ("ThirdOfTheLast$Shelf", "sort", "I", false)
  | 4 => ("ThirdOfTheLast$Shelf", "size", "I", false)
  | _ => ("ThirdOfTheLast$Shelf", "elements", "[I", true)
def tyX4 : Nat → FieldType := fun k => match k with
  | 0 => .int
  | 1 => .int
  | 2 => .int
  | 3 => .int
  | 4 => .int
  | _ => .array .int
abbrev wsX40 : List Cond := u_ws RX4 TX4 6
theorem nmX4 : ∀ a, a < 6 → ∀ b, b < 6 → a ≠ b → (TX4 a).2.1 ≠ (TX4 b).2.1 := by decide +kernel
theorem tyX4_ok : ∀ k, k < 6 → parseFieldDescriptor (TX4 k).2.2.1 = some (tyX4 k) := by decide +kernel
abbrev cX4_init : ByteArray := prog_6_method_1_code
def yX4_init : MethodName := ⟨RX4, "<init>", "()V"⟩
abbrev cX4_holdNothing : ByteArray := prog_6_method_2_code
def yX4_holdNothing : MethodName := ⟨RX4, "holdNothing", "()V"⟩
abbrev cX4_holdDish : ByteArray := prog_6_method_3_code
def yX4_holdDish : MethodName := ⟨RX4, "holdDish", "(II)V"⟩
abbrev cX4_holdRow : ByteArray := prog_6_method_4_code
def yX4_holdRow : MethodName := ⟨RX4, "holdRow", "(II)V"⟩
abbrev cX4_holdsNothing : ByteArray := prog_6_method_5_code
def yX4_holdsNothing : MethodName := ⟨RX4, "holdsNothing", "()Z"⟩
abbrev cX4_holdsRow : ByteArray := prog_6_method_6_code
def yX4_holdsRow : MethodName := ⟨RX4, "holdsRow", "()Z"⟩
abbrev cX4_hasElement : ByteArray := prog_6_method_7_code
def yX4_hasElement : MethodName := ⟨RX4, "hasElement", "(I)Z"⟩
abbrev cX4_hasElements : ByteArray := prog_6_method_8_code
def yX4_hasElements : MethodName := ⟨RX4, "hasElements", "(II)Z"⟩
abbrev cX4_elementOr : ByteArray := prog_6_method_9_code
def yX4_elementOr : MethodName := ⟨RX4, "elementOr", "(II)I"⟩
abbrev cX4_digitAt : ByteArray := prog_6_method_10_code
def yX4_digitAt : MethodName := ⟨RX4, "digitAt", "(I)I"⟩
abbrev cX4_hasDishAt : ByteArray := prog_6_method_11_code
def yX4_hasDishAt : MethodName := ⟨RX4, "hasDishAt", "(I)Z"⟩
abbrev cX4_lowestBits : ByteArray := prog_6_method_12_code
def yX4_lowestBits : MethodName := ⟨RX4, "lowestBits", "(I)I"⟩
abbrev cX4_leastNumber : ByteArray := prog_6_method_13_code
def yX4_leastNumber : MethodName := ⟨RX4, "leastNumber", "()I"⟩
def RX5 : String := "ThirdOfTheLast"
def TX5 : u_T := fun k => match k with
  | 0 => ("ThirdOfTheLast", "now", "LThirdOfTheLast$Kitchen;", true)
  | 1 => ("ThirdOfTheLast", "tried", "LThirdOfTheLast$Kitchen;", true)
  | 2 => ("ThirdOfTheLast", "kept", "LThirdOfTheLast$Kitchen;", true)
  | 3 => ("ThirdOfTheLast", "isKept", "Z", false)
  | 4 => ("ThirdOfTheLast", "mind", "LThirdOfTheLast$Mind;", true)
  | 5 => ("ThirdOfTheLast", "trial", "LThirdOfTheLast$Flavour;", true)
  | 6 => ("ThirdOfTheLast", "portions", "[I", true)
  | _ => ("ThirdOfTheLast", "shelves", "[LThirdOfTheLast$Shelf;", true)
def tyX5 : Nat → FieldType := fun k => match k with
  | 0 => .object "ThirdOfTheLast$Kitchen"
  | 1 => .object "ThirdOfTheLast$Kitchen"
  | 2 => .object "ThirdOfTheLast$Kitchen"
  | 3 => .boolean
  | 4 => .object "ThirdOfTheLast$Mind"
  | 5 => .object "ThirdOfTheLast$Flavour"
  | 6 => .array .int
  | _ => .array (.object "ThirdOfTheLast$Shelf")
abbrev wsX50 : List Cond := u_ws RX5 TX5 8
theorem nmX5 : ∀ a, a < 8 → ∀ b, b < 8 → a ≠ b → (TX5 a).2.1 ≠ (TX5 b).2.1 := by decide +kernel
theorem tyX5_ok : ∀ k, k < 8 → parseFieldDescriptor (TX5 k).2.2.1 = some (tyX5 k) := by decide +kernel
abbrev cX5_init : ByteArray := prog_1_method_1_code
def yX5_init : MethodName := ⟨RX5, "<init>", "()V"⟩
abbrev cX5_kitchen : ByteArray := prog_1_method_2_code
def yX5_kitchen : MethodName := ⟨RX5, "kitchen", "(I)I"⟩
abbrev cX5_pot : ByteArray := prog_1_method_3_code
def yX5_pot : MethodName := ⟨RX5, "pot", "()I"⟩
abbrev cX5_cook : ByteArray := prog_1_method_4_code
def yX5_cook : MethodName := ⟨RX5, "cook", "(II)I"⟩
abbrev cX5_dish : ByteArray := prog_1_method_5_code
def yX5_dish : MethodName := ⟨RX5, "dish", "(III)I"⟩
abbrev cX5_dishes : ByteArray := prog_1_method_6_code
def yX5_dishes : MethodName := ⟨RX5, "dishes", "(I)I"⟩
abbrev cX5_taste : ByteArray := prog_1_method_7_code
def yX5_taste : MethodName := ⟨RX5, "taste", "(III)J"⟩
abbrev cX5_all : ByteArray := prog_1_method_8_code
def yX5_all : MethodName := ⟨RX5, "all", "(II)J"⟩
abbrev cX5_portion : ByteArray := prog_1_method_9_code
def yX5_portion : MethodName := ⟨RX5, "portion", "(II)I"⟩
abbrev cX5_over : ByteArray := prog_1_method_10_code
def yX5_over : MethodName := ⟨RX5, "over", "(III)I"⟩
abbrev cX5_part : ByteArray := prog_1_method_11_code
def yX5_part : MethodName := ⟨RX5, "part", "(III)J"⟩
abbrev cX5_back : ByteArray := prog_1_method_12_code
def yX5_back : MethodName := ⟨RX5, "back", "(II)I"⟩
abbrev cX5_strongest : ByteArray := prog_1_method_13_code
def yX5_strongest : MethodName := ⟨RX5, "strongest", "(I)I"⟩
abbrev cX5_harms : ByteArray := prog_1_method_14_code
def yX5_harms : MethodName := ⟨RX5, "harms", "(III)I"⟩
abbrev cX5_first : ByteArray := prog_1_method_15_code
def yX5_first : MethodName := ⟨RX5, "first", "(III)I"⟩
abbrev cX5_week : ByteArray := prog_1_method_16_code
def yX5_week : MethodName := ⟨RX5, "week", "(IIII)I"⟩
abbrev cX5_bring : ByteArray := prog_1_method_17_code
def yX5_bring : MethodName := ⟨RX5, "bring", "(IIIII)I"⟩
abbrev cX5_firstBringing : ByteArray := prog_1_method_18_code
def yX5_firstBringing : MethodName := ⟨RX5, "firstBringing", "(LThirdOfTheLast$Flavour;IIII)I"⟩
abbrev cX5_mayHave : ByteArray := prog_1_method_19_code
def yX5_mayHave : MethodName := ⟨RX5, "mayHave", "(IIII)I"⟩
abbrev cX5_tells : ByteArray := prog_1_method_20_code
def yX5_tells : MethodName := ⟨RX5, "tells", "(I)I"⟩
abbrev cX5_mostAlike : ByteArray := prog_1_method_21_code
def yX5_mostAlike : MethodName := ⟨RX5, "mostAlike", "(I)I"⟩
abbrev cX5_lent : ByteArray := prog_1_method_22_code
def yX5_lent : MethodName := ⟨RX5, "lent", "(II)I"⟩
abbrev cX5_gone : ByteArray := prog_1_method_23_code
def yX5_gone : MethodName := ⟨RX5, "gone", "(III)I"⟩
abbrev cX5_seeded : ByteArray := prog_1_method_24_code
def yX5_seeded : MethodName := ⟨RX5, "seeded", "(III)I"⟩
abbrev cX5_judge : ByteArray := prog_1_method_25_code
def yX5_judge : MethodName := ⟨RX5, "judge", "(I)I"⟩
abbrev cX5_image : ByteArray := prog_1_method_26_code
def yX5_image : MethodName := ⟨RX5, "image", "()I"⟩
abbrev cX5_restore : ByteArray := prog_1_method_27_code
def yX5_restore : MethodName := ⟨RX5, "restore", "()I"⟩
abbrev cX5_count : ByteArray := prog_1_method_28_code
def yX5_count : MethodName := ⟨RX5, "count", "(I)I"⟩
abbrev cX5_keep : ByteArray := prog_1_method_29_code
def yX5_keep : MethodName := ⟨RX5, "keep", "(IIII)I"⟩
abbrev cX5_row : ByteArray := prog_1_method_30_code
def yX5_row : MethodName := ⟨RX5, "row", "(III)I"⟩
abbrev cX5_put : ByteArray := prog_1_method_31_code
def yX5_put : MethodName := ⟨RX5, "put", "(III)I"⟩
abbrev cX5_element : ByteArray := prog_1_method_32_code
def yX5_element : MethodName := ⟨RX5, "element", "(II)J"⟩
abbrev cX5_copy : ByteArray := prog_1_method_33_code
def yX5_copy : MethodName := ⟨RX5, "copy", "(IIIII)I"⟩
abbrev cX5_price : ByteArray := prog_1_method_34_code
def yX5_price : MethodName := ⟨RX5, "price", "(I)I"⟩
abbrev cX5_toss : ByteArray := prog_1_method_35_code
def yX5_toss : MethodName := ⟨RX5, "toss", "(I)I"⟩
abbrev cX5_isNoTaste : ByteArray := prog_1_method_36_code
def yX5_isNoTaste : MethodName := ⟨RX5, "isNoTaste", "(I)Z"⟩
abbrev cX5_isNoKind : ByteArray := prog_1_method_37_code
def yX5_isNoKind : MethodName := ⟨RX5, "isNoKind", "(I)Z"⟩
abbrev cX5_isNoFigure : ByteArray := prog_1_method_38_code
def yX5_isNoFigure : MethodName := ⟨RX5, "isNoFigure", "(I)Z"⟩
abbrev cX5_isNoHalf : ByteArray := prog_1_method_39_code
def yX5_isNoHalf : MethodName := ⟨RX5, "isNoHalf", "(I)Z"⟩
abbrev cX5_isNoPercent : ByteArray := prog_1_method_40_code
def yX5_isNoPercent : MethodName := ⟨RX5, "isNoPercent", "(I)Z"⟩
abbrev cX5_isNoHundredth : ByteArray := prog_1_method_41_code
def yX5_isNoHundredth : MethodName := ⟨RX5, "isNoHundredth", "(I)Z"⟩
abbrev cX5_isNoBans : ByteArray := prog_1_method_42_code
def yX5_isNoBans : MethodName := ⟨RX5, "isNoBans", "(I)Z"⟩
abbrev cX5_isNoShelf : ByteArray := prog_1_method_43_code
def yX5_isNoShelf : MethodName := ⟨RX5, "isNoShelf", "(I)Z"⟩
abbrev cX5_dishRefusal : ByteArray := prog_1_method_44_code
def yX5_dishRefusal : MethodName := ⟨RX5, "dishRefusal", "(I)I"⟩
abbrev cX5_rowRefusal : ByteArray := prog_1_method_45_code
def yX5_rowRefusal : MethodName := ⟨RX5, "rowRefusal", "(I)I"⟩
abbrev cX5_bytesRefusal : ByteArray := prog_1_method_46_code
def yX5_bytesRefusal : MethodName := ⟨RX5, "bytesRefusal", "(I)I"⟩
abbrev cX5_isPlan : ByteArray := prog_1_method_47_code
def yX5_isPlan : MethodName := ⟨RX5, "isPlan", "(LThirdOfTheLast$Shelf;)Z"⟩
abbrev cX5_isRowOfDishes : ByteArray := prog_1_method_48_code
def yX5_isRowOfDishes : MethodName := ⟨RX5, "isRowOfDishes", "(LThirdOfTheLast$Shelf;)Z"⟩
abbrev cX5_ownOf : ByteArray := prog_1_method_49_code
def yX5_ownOf : MethodName := ⟨RX5, "ownOf", "(III)I"⟩
abbrev cX5_keepsOf : ByteArray := prog_1_method_50_code
def yX5_keepsOf : MethodName := ⟨RX5, "keepsOf", "(I)I"⟩
abbrev cX5_priceOf : ByteArray := prog_1_method_51_code
def yX5_priceOf : MethodName := ⟨RX5, "priceOf", "(II)I"⟩
abbrev cX5_codesOf : ByteArray := prog_1_method_52_code
def yX5_codesOf : MethodName := ⟨RX5, "codesOf", "(I)I"⟩
abbrev cX5_kindIn : ByteArray := prog_1_method_53_code
def yX5_kindIn : MethodName := ⟨RX5, "kindIn", "(II)I"⟩
abbrev cX5_firstKind : ByteArray := prog_1_method_54_code
def yX5_firstKind : MethodName := ⟨RX5, "firstKind", "(II)I"⟩
abbrev cX5_digitsOf : ByteArray := prog_1_method_55_code
def yX5_digitsOf : MethodName := ⟨RX5, "digitsOf", "(II)I"⟩
abbrev cX5_powerOfNine : ByteArray := prog_1_method_56_code
def yX5_powerOfNine : MethodName := ⟨RX5, "powerOfNine", "(I)J"⟩
abbrev cX5_inLeastTerms : ByteArray := prog_1_method_57_code
def yX5_inLeastTerms : MethodName := ⟨RX5, "inLeastTerms", "(JJI)J"⟩
abbrev cX5_nextSeed : ByteArray := prog_1_method_58_code
def yX5_nextSeed : MethodName := ⟨RX5, "nextSeed", "(I)I"⟩
abbrev cX5_drawOf : ByteArray := prog_1_method_59_code
def yX5_drawOf : MethodName := ⟨RX5, "drawOf", "(I)I"⟩
def RX6 : String := "ThirdOfTheLastModel"
def TX6 : u_T := fun k => match k with
  | 0 => ("ThirdOfTheLastModel", "pots", "I", false)
  | 1 => ("ThirdOfTheLastModel", "tastes", "[J", true)
  | 2 => ("ThirdOfTheLastModel", "dishMany", "[I", true)
  | 3 => ("ThirdOfTheLastModel", "kinds", "[I", true)
  | 4 => ("ThirdOfTheLastModel", "figures", "[I", true)
  | 5 => ("ThirdOfTheLastModel", "thrown", "I", false)
  | 6 => ("ThirdOfTheLastModel", "imagedPots", "I", false)
  | 7 => ("ThirdOfTheLastModel", "hasImage", "Z", false)
  | 8 => ("ThirdOfTheLastModel", "imagedTastes", "[J", true)
  | 9 => ("ThirdOfTheLastModel", "imagedMany", "[I", true)
  | 10 => ("ThirdOfTheLastModel", "imagedKinds", "[I", true)
  | 11 => ("ThirdOfTheLastModel", "imagedFigures", "[I", true)
  | 12 => ("ThirdOfTheLastModel", "keptPots", "I", false)
  | 13 => ("ThirdOfTheLastModel", "keptTastes", "[J", true)
  | 14 => ("ThirdOfTheLastModel", "keptMany", "[I", true)
  | 15 => ("ThirdOfTheLastModel", "keptKinds", "[I", true)
  | 16 => ("ThirdOfTheLastModel", "keptFigures", "[I", true)
  | 17 => ("ThirdOfTheLastModel", "base", "I", false)
  | 18 => ("ThirdOfTheLastModel", "end", "I", false)
  | 19 => ("ThirdOfTheLastModel", "at", "I", false)
  | 20 => ("ThirdOfTheLastModel", "isBad", "Z", false)
  | 21 => ("ThirdOfTheLastModel", "statements", "I", false)
  | 22 => ("ThirdOfTheLastModel", "placeOf", "[I", true)
  | 23 => ("ThirdOfTheLastModel", "letterOf", "[I", true)
  | 24 => ("ThirdOfTheLastModel", "told", "[I", true)
  | 25 => ("ThirdOfTheLastModel", "seed", "I", false)
  | 26 => ("ThirdOfTheLastModel", "holdsWhat", "[I", true)
  | 27 => ("ThirdOfTheLastModel", "dishKind", "[I", true)
  | 28 => ("ThirdOfTheLastModel", "dishFigure", "[I", true)
  | 29 => ("ThirdOfTheLastModel", "rowSort", "[I", true)
  | 30 => ("ThirdOfTheLastModel", "rowMany", "[I", true)
  | 31 => ("ThirdOfTheLastModel", "rows", "[J", true)
  | _ => ("ThirdOfTheLastModel", "between", "[J", true)
def tyX6 : Nat → FieldType := fun k => match k with
  | 0 => .int
  | 1 => .array .long
  | 2 => .array .int
  | 3 => .array .int
  | 4 => .array .int
  | 5 => .int
  | 6 => .int
  | 7 => .boolean
  | 8 => .array .long
  | 9 => .array .int
  | 10 => .array .int
  | 11 => .array .int
  | 12 => .int
  | 13 => .array .long
  | 14 => .array .int
  | 15 => .array .int
  | 16 => .array .int
  | 17 => .int
  | 18 => .int
  | 19 => .int
  | 20 => .boolean
  | 21 => .int
  | 22 => .array .int
  | 23 => .array .int
  | 24 => .array .int
  | 25 => .int
  | 26 => .array .int
  | 27 => .array .int
  | 28 => .array .int
  | 29 => .array .int
  | 30 => .array .int
  | 31 => .array .long
  | _ => .array .long
abbrev wsX60 : List Cond := u_ws RX6 TX6 33
theorem nmX6 : ∀ a, a < 33 → ∀ b, b < 33 → a ≠ b → (TX6 a).2.1 ≠ (TX6 b).2.1 := by decide +kernel
theorem tyX6_ok : ∀ k, k < 33 → parseFieldDescriptor (TX6 k).2.2.1 = some (tyX6 k) := by decide +kernel
abbrev cX6_init : ByteArray := prog_8_method_1_code
def yX6_init : MethodName := ⟨RX6, "<init>", "()V"⟩
abbrev cX6_thrown : ByteArray := prog_8_method_2_code
def yX6_thrown : MethodName := ⟨RX6, "thrown", "()I"⟩
abbrev cX6_in : ByteArray := prog_8_method_3_code
def yX6_in : MethodName := ⟨RX6, "in", "(JJJ)Z"⟩
abbrev cX6_isPot : ByteArray := prog_8_method_4_code
def yX6_isPot : MethodName := ⟨RX6, "isPot", "(I)Z"⟩
abbrev cX6_ownOf : ByteArray := prog_8_method_5_code
def yX6_ownOf : MethodName := ⟨RX6, "ownOf", "(III)I"⟩
abbrev cX6_keepsOf : ByteArray := prog_8_method_6_code
def yX6_keepsOf : MethodName := ⟨RX6, "keepsOf", "(I)I"⟩
abbrev cX6_priceOf : ByteArray := prog_8_method_7_code
def yX6_priceOf : MethodName := ⟨RX6, "priceOf", "(II)I"⟩
abbrev cX6_nine : ByteArray := prog_8_method_8_code
def yX6_nine : MethodName := ⟨RX6, "nine", "(I)J"⟩
abbrev cX6_becomes : ByteArray := prog_8_method_9_code
def yX6_becomes : MethodName := ⟨RX6, "becomes", "(III)V"⟩
abbrev cX6_cooks : ByteArray := prog_8_method_10_code
def yX6_cooks : MethodName := ⟨RX6, "cooks", "(III)Z"⟩
abbrev cX6_empty : ByteArray := prog_8_method_11_code
def yX6_empty : MethodName := ⟨RX6, "empty", "(I)V"⟩
abbrev cX6_same : ByteArray := prog_8_method_12_code
def yX6_same : MethodName := ⟨RX6, "same", "(II)V"⟩
abbrev cX6_allOf : ByteArray := prog_8_method_13_code
def yX6_allOf : MethodName := ⟨RX6, "allOf", "(I)J"⟩
abbrev cX6_portionOf : ByteArray := prog_8_method_14_code
def yX6_portionOf : MethodName := ⟨RX6, "portionOf", "(II)I"⟩
abbrev cX6_isOver : ByteArray := prog_8_method_15_code
def yX6_isOver : MethodName := ⟨RX6, "isOver", "(III)Z"⟩
abbrev cX6_doesHarm : ByteArray := prog_8_method_16_code
def yX6_doesHarm : MethodName := ⟨RX6, "doesHarm", "(III)Z"⟩
abbrev cX6_copyLongs : ByteArray := prog_8_method_17_code
def yX6_copyLongs : MethodName := ⟨RX6, "copyLongs", "([J[J)V"⟩
abbrev cX6_copyInts : ByteArray := prog_8_method_18_code
def yX6_copyInts : MethodName := ⟨RX6, "copyInts", "([I[II)V"⟩
abbrev cX6_open : ByteArray := prog_8_method_19_code
def yX6_open : MethodName := ⟨RX6, "open", "()V"⟩
abbrev cX6_close : ByteArray := prog_8_method_20_code
def yX6_close : MethodName := ⟨RX6, "close", "()V"⟩
abbrev cX6_image : ByteArray := prog_8_method_21_code
def yX6_image : MethodName := ⟨RX6, "image", "()I"⟩
abbrev cX6_restore : ByteArray := prog_8_method_22_code
def yX6_restore : MethodName := ⟨RX6, "restore", "()I"⟩
abbrev cX6_here : ByteArray := prog_8_method_23_code
def yX6_here : MethodName := ⟨RX6, "here", "()I"⟩
abbrev cX6_readDigit : ByteArray := prog_8_method_24_code
def yX6_readDigit : MethodName := ⟨RX6, "readDigit", "()I"⟩
abbrev cX6_readStatement : ByteArray := prog_8_method_25_code
def yX6_readStatement : MethodName := ⟨RX6, "readStatement", "()V"⟩
abbrev cX6_comes : ByteArray := prog_8_method_26_code
def yX6_comes : MethodName := ⟨RX6, "comes", "(I)Z"⟩
abbrev cX6_kitchen : ByteArray := prog_8_method_27_code
def yX6_kitchen : MethodName := ⟨RX6, "kitchen", "(I)I"⟩
abbrev cX6_pot : ByteArray := prog_8_method_28_code
def yX6_pot : MethodName := ⟨RX6, "pot", "()I"⟩
abbrev cX6_wrongDish : ByteArray := prog_8_method_29_code
def yX6_wrongDish : MethodName := ⟨RX6, "wrongDish", "(I)I"⟩
abbrev cX6_cook : ByteArray := prog_8_method_30_code
def yX6_cook : MethodName := ⟨RX6, "cook", "(II)I"⟩
abbrev cX6_dish : ByteArray := prog_8_method_31_code
def yX6_dish : MethodName := ⟨RX6, "dish", "(III)I"⟩
abbrev cX6_dishes : ByteArray := prog_8_method_32_code
def yX6_dishes : MethodName := ⟨RX6, "dishes", "(I)I"⟩
abbrev cX6_least : ByteArray := prog_8_method_33_code
def yX6_least : MethodName := ⟨RX6, "least", "(JJI)J"⟩
abbrev cX6_taste : ByteArray := prog_8_method_34_code
def yX6_taste : MethodName := ⟨RX6, "taste", "(III)J"⟩
abbrev cX6_all : ByteArray := prog_8_method_35_code
def yX6_all : MethodName := ⟨RX6, "all", "(II)J"⟩
abbrev cX6_portion : ByteArray := prog_8_method_36_code
def yX6_portion : MethodName := ⟨RX6, "portion", "(II)I"⟩
abbrev cX6_over : ByteArray := prog_8_method_37_code
def yX6_over : MethodName := ⟨RX6, "over", "(III)I"⟩
abbrev cX6_partOf : ByteArray := prog_8_method_38_code
def yX6_partOf : MethodName := ⟨RX6, "partOf", "(II)J"⟩
abbrev cX6_part : ByteArray := prog_8_method_39_code
def yX6_part : MethodName := ⟨RX6, "part", "(III)J"⟩
abbrev cX6_back : ByteArray := prog_8_method_40_code
def yX6_back : MethodName := ⟨RX6, "back", "(II)I"⟩
abbrev cX6_strongest : ByteArray := prog_8_method_41_code
def yX6_strongest : MethodName := ⟨RX6, "strongest", "(I)I"⟩
abbrev cX6_isLine : ByteArray := prog_8_method_42_code
def yX6_isLine : MethodName := ⟨RX6, "isLine", "(II)Z"⟩
abbrev cX6_harms : ByteArray := prog_8_method_43_code
def yX6_harms : MethodName := ⟨RX6, "harms", "(III)I"⟩
abbrev cX6_wrongDishes : ByteArray := prog_8_method_44_code
def yX6_wrongDishes : MethodName := ⟨RX6, "wrongDishes", "(III)I"⟩
abbrev cX6_element0 : ByteArray := prog_8_method_45_code
def yX6_element0 : MethodName := ⟨RX6, "element0", "(II)I"⟩
abbrev cX6_first : ByteArray := prog_8_method_46_code
def yX6_first : MethodName := ⟨RX6, "first", "(III)I"⟩
abbrev cX6_power : ByteArray := prog_8_method_47_code
def yX6_power : MethodName := ⟨RX6, "power", "(II)I"⟩
abbrev cX6_week : ByteArray := prog_8_method_48_code
def yX6_week : MethodName := ⟨RX6, "week", "(IIII)I"⟩
abbrev cX6_cooksCode : ByteArray := prog_8_method_49_code
def yX6_cooksCode : MethodName := ⟨RX6, "cooksCode", "(III)Z"⟩
abbrev cX6_bring : ByteArray := prog_8_method_50_code
def yX6_bring : MethodName := ⟨RX6, "bring", "(IIIII)I"⟩
abbrev cX6_digitsOf : ByteArray := prog_8_method_51_code
def yX6_digitsOf : MethodName := ⟨RX6, "digitsOf", "(II)I"⟩
abbrev cX6_mayHave : ByteArray := prog_8_method_52_code
def yX6_mayHave : MethodName := ⟨RX6, "mayHave", "(IIII)I"⟩
abbrev cX6_alikeIn : ByteArray := prog_8_method_53_code
def yX6_alikeIn : MethodName := ⟨RX6, "alikeIn", "(I)I"⟩
abbrev cX6_tells : ByteArray := prog_8_method_54_code
def yX6_tells : MethodName := ⟨RX6, "tells", "(I)I"⟩
abbrev cX6_lent : ByteArray := prog_8_method_55_code
def yX6_lent : MethodName := ⟨RX6, "lent", "(II)I"⟩
abbrev cX6_gone : ByteArray := prog_8_method_56_code
def yX6_gone : MethodName := ⟨RX6, "gone", "(III)I"⟩
abbrev cX6_draw : ByteArray := prog_8_method_57_code
def yX6_draw : MethodName := ⟨RX6, "draw", "(I)I"⟩
abbrev cX6_seeded : ByteArray := prog_8_method_58_code
def yX6_seeded : MethodName := ⟨RX6, "seeded", "(III)I"⟩
abbrev cX6_skippedIn : ByteArray := prog_8_method_59_code
def yX6_skippedIn : MethodName := ⟨RX6, "skippedIn", "(I)J"⟩
abbrev cX6_judge : ByteArray := prog_8_method_60_code
def yX6_judge : MethodName := ⟨RX6, "judge", "(I)I"⟩
abbrev cX6_count : ByteArray := prog_8_method_61_code
def yX6_count : MethodName := ⟨RX6, "count", "(I)I"⟩
abbrev cX6_wrongSort : ByteArray := prog_8_method_62_code
def yX6_wrongSort : MethodName := ⟨RX6, "wrongSort", "(II)I"⟩
abbrev cX6_keep : ByteArray := prog_8_method_63_code
def yX6_keep : MethodName := ⟨RX6, "keep", "(IIII)I"⟩
abbrev cX6_wrongRow : ByteArray := prog_8_method_64_code
def yX6_wrongRow : MethodName := ⟨RX6, "wrongRow", "(I)I"⟩
abbrev cX6_narrowed : ByteArray := prog_8_method_65_code
def yX6_narrowed : MethodName := ⟨RX6, "narrowed", "(II)J"⟩
abbrev cX6_row : ByteArray := prog_8_method_66_code
def yX6_row : MethodName := ⟨RX6, "row", "(III)I"⟩
abbrev cX6_put : ByteArray := prog_8_method_67_code
def yX6_put : MethodName := ⟨RX6, "put", "(III)I"⟩
abbrev cX6_element : ByteArray := prog_8_method_68_code
def yX6_element : MethodName := ⟨RX6, "element", "(II)J"⟩
abbrev cX6_copy : ByteArray := prog_8_method_69_code
def yX6_copy : MethodName := ⟨RX6, "copy", "(IIIII)I"⟩
abbrev cX6_price : ByteArray := prog_8_method_70_code
def yX6_price : MethodName := ⟨RX6, "price", "(I)I"⟩
abbrev cX6_toss : ByteArray := prog_8_method_71_code
def yX6_toss : MethodName := ⟨RX6, "toss", "(I)I"⟩
def RJ9 : String := "java/lang/Math"
def TJ9 : u_T := fun k => match k with
  | _ => ("", "", "", false)
def tyJ9 : Nat → FieldType := fun k => match k with
  | _ => .int
abbrev wsJ90 : List Cond := u_ws RJ9 TJ9 0
theorem nmJ9 : ∀ a, a < 0 → ∀ b, b < 0 → a ≠ b → (TJ9 a).2.1 ≠ (TJ9 b).2.1 := by decide +kernel
theorem tyJ9_ok : ∀ k, k < 0 → parseFieldDescriptor (TJ9 k).2.2.1 = some (tyJ9 k) := by decide +kernel
abbrev cJ9_max_7cf53 : ByteArray := prog_12_method_65_code
def yJ9_max_7cf53 : MethodName := ⟨RJ9, "max", "(II)I"⟩
abbrev cJ9_min_7cf53 : ByteArray := prog_12_method_69_code
def yJ9_min_7cf53 : MethodName := ⟨RJ9, "min", "(II)I"⟩
def RJ10 : String := "java/lang/System"
def TJ10 : u_T := fun k => match k with
  | _ => ("", "", "", false)
def tyJ10 : Nat → FieldType := fun k => match k with
  | _ => .int
abbrev wsJ100 : List Cond := u_ws RJ10 TJ10 0
theorem nmJ10 : ∀ a, a < 0 → ∀ b, b < 0 → a ≠ b → (TJ10 a).2.1 ≠ (TJ10 b).2.1 := by decide +kernel
theorem tyJ10_ok : ∀ k, k < 0 → parseFieldDescriptor (TJ10 k).2.2.1 = some (tyJ10 k) := by decide +kernel
def RL : String := "ThirdOfTheLastLaw"
abbrev cL_element : ByteArray := method_3_code
def yL_element : MethodName := ⟨RL, "element", "(LThirdOfTheLast;II[J)I"⟩
abbrev cL_law : ByteArray := code
def yL_law : MethodName := ⟨RL, "law", "([I)Z"⟩
def wsX0_init : List Cond := .code yX0_init cX0_init 1 none :: ([.methodLink RX0 3 objectInit, .instanceMethod objectInit, .code objectInit ⟨#[0xb1]⟩ 1 none, .arrayClass .long, .fieldLink RX0 9 "ThirdOfTheLast$Flavour" "above" "[J", .fieldLink RX0 15 "ThirdOfTheLast$Flavour" "below" "J"] ++ wsX00)
def wsX0_clear : List Cond := .code yX0_clear cX0_clear 2 none :: ([.fieldLink RX0 9 "ThirdOfTheLast$Flavour" "above" "[J", .fieldLink RX0 15 "ThirdOfTheLast$Flavour" "below" "J", .fieldLink RX0 19 "ThirdOfTheLast$Flavour" "count" "I"] ++ wsX00)
def wsX0_become : List Cond := .code yX0_become cX0_become 3 none :: ([.fieldLink RX0 9 "ThirdOfTheLast$Flavour" "above" "[J", .fieldLink RX0 15 "ThirdOfTheLast$Flavour" "below" "J", .fieldLink RX0 19 "ThirdOfTheLast$Flavour" "count" "I"] ++ wsX00)
def wsX0_hasRoom : List Cond := .code yX0_hasRoom cX0_hasRoom 1 (some .boolean) :: ([.fieldLink RX0 19 "ThirdOfTheLast$Flavour" "count" "I"] ++ wsX00)
def wsX5_keepsOf : List Cond := .code yX5_keepsOf cX5_keepsOf 4 (some .int) :: ([])
def wsX5_ownOf : List Cond := .code yX5_ownOf cX5_ownOf 6 (some .int) :: ([])
def wsX0_takeIn : List Cond := .code yX0_takeIn cX0_takeIn 5 none :: ([.fieldLink RX0 15 "ThirdOfTheLast$Flavour" "below" "J", .constantLong RX0 27 (9), .fieldLink RX0 9 "ThirdOfTheLast$Flavour" "above" "[J", .fieldLink RX0 19 "ThirdOfTheLast$Flavour" "count" "I", .static yX5_keepsOf, .initialized RX5, .code yX5_keepsOf cX5_keepsOf 4 (some .int), .static yX5_ownOf, .code yX5_ownOf cX5_ownOf 6 (some .int)] ++ wsX00)
def wsX5_kindIn : List Cond := .code yX5_kindIn cX5_kindIn 2 (some .int) :: ([])
def wsX0_takeCode : List Cond := .code yX0_takeCode cX0_takeCode 5 none :: ([.static yX5_kindIn, .initialized RX5, .code yX5_kindIn cX5_kindIn 2 (some .int), .methodLink RX0 37 yX0_takeIn, .instanceMethod yX0_takeIn, .selects RX0 yX0_takeIn yX0_takeIn, .initialized RX0, .code yX0_takeIn cX0_takeIn 5 none, .fieldLink RX0 15 "ThirdOfTheLast$Flavour" "below" "J", .constantLong RX0 27 (9), .fieldLink RX0 9 "ThirdOfTheLast$Flavour" "above" "[J", .fieldLink RX0 19 "ThirdOfTheLast$Flavour" "count" "I", .static yX5_keepsOf, .code yX5_keepsOf cX5_keepsOf 4 (some .int), .static yX5_ownOf, .code yX5_ownOf cX5_ownOf 6 (some .int)] ++ wsX00)
def wsX0_totalAbove : List Cond := .code yX0_totalAbove cX0_totalAbove 4 (some .long) :: ([.fieldLink RX0 9 "ThirdOfTheLast$Flavour" "above" "[J"] ++ wsX00)
def wsX0_portionOf : List Cond := .code yX0_portionOf cX0_portionOf 4 (some .int) :: ([.constantLong RX0 45 (100), .fieldLink RX0 9 "ThirdOfTheLast$Flavour" "above" "[J", .methodLink RX0 41 yX0_totalAbove, .instanceMethod yX0_totalAbove, .selects RX0 yX0_totalAbove yX0_totalAbove, .initialized RX0, .code yX0_totalAbove cX0_totalAbove 4 (some .long)] ++ wsX00)
def wsX0_isOver : List Cond := .code yX0_isOver cX0_isOver 3 (some .boolean) :: ([.constantLong RX0 45 (100), .fieldLink RX0 9 "ThirdOfTheLast$Flavour" "above" "[J", .methodLink RX0 41 yX0_totalAbove, .instanceMethod yX0_totalAbove, .selects RX0 yX0_totalAbove yX0_totalAbove, .initialized RX0, .code yX0_totalAbove cX0_totalAbove 4 (some .long)] ++ wsX00)
def wsX0_isHarmful : List Cond := .code yX0_isHarmful cX0_isHarmful 6 (some .boolean) :: ([.constantLong RX0 45 (100), .fieldLink RX0 9 "ThirdOfTheLast$Flavour" "above" "[J", .methodLink RX0 41 yX0_totalAbove, .instanceMethod yX0_totalAbove, .selects RX0 yX0_totalAbove yX0_totalAbove, .initialized RX0, .code yX0_totalAbove cX0_totalAbove 4 (some .long)] ++ wsX00)
def wsX0_mostTaste : List Cond := .code yX0_mostTaste cX0_mostTaste 3 (some .int) :: ([.fieldLink RX0 9 "ThirdOfTheLast$Flavour" "above" "[J"] ++ wsX00)
def wsX0_isLike : List Cond := .code yX0_isLike cX0_isLike 3 (some .boolean) :: ([.fieldLink RX0 9 "ThirdOfTheLast$Flavour" "above" "[J", .fieldLink RX0 15 "ThirdOfTheLast$Flavour" "below" "J"] ++ wsX00)
def wsX3_init : List Cond := .code yX3_init cX3_init 1 none :: ([.methodLink RX3 3 objectInit, .instanceMethod objectInit, .code objectInit ⟨#[0xb1]⟩ 1 none, .classLink RX3 9 RX0, .instantiable RX0 3, .initialized RX0, .fieldLink RX3 12 "ThirdOfTheLast$Pot" "flavour" "LThirdOfTheLast$Flavour;", .arrayClass .int, .fieldLink RX3 18 "ThirdOfTheLast$Pot" "kinds" "[I", .fieldLink RX3 22 "ThirdOfTheLast$Pot" "figures" "[I", .instanceMethod yX0_init, .code yX0_init cX0_init 1 none, .methodLink RX0 3 objectInit, .arrayClass .long, .fieldLink RX0 9 "ThirdOfTheLast$Flavour" "above" "[J", .fieldLink RX0 15 "ThirdOfTheLast$Flavour" "below" "J"] ++ wsX00 ++ wsX30)
def wsX1_init : List Cond := .code yX1_init cX1_init 2 none :: ([.methodLink RX1 3 objectInit, .instanceMethod objectInit, .code objectInit ⟨#[0xb1]⟩ 1 none, .classLink RX1 9 RX3, .fieldLink RX1 11 "ThirdOfTheLast$Kitchen" "pots" "[LThirdOfTheLast$Pot;", .instantiable RX3 3, .initialized RX3, .instanceMethod yX3_init, .code yX3_init cX3_init 1 none, .methodLink RX3 3 objectInit, .classLink RX3 9 RX0, .instantiable RX0 3, .initialized RX0, .fieldLink RX3 12 "ThirdOfTheLast$Pot" "flavour" "LThirdOfTheLast$Flavour;", .arrayClass .int, .fieldLink RX3 18 "ThirdOfTheLast$Pot" "kinds" "[I", .fieldLink RX3 22 "ThirdOfTheLast$Pot" "figures" "[I", .instanceMethod yX0_init, .code yX0_init cX0_init 1 none, .methodLink RX0 3 objectInit, .arrayClass .long, .fieldLink RX0 9 "ThirdOfTheLast$Flavour" "above" "[J", .fieldLink RX0 15 "ThirdOfTheLast$Flavour" "below" "J"] ++ wsX10 ++ wsX30 ++ wsX00)
def wsX1_has : List Cond := .code yX1_has cX1_has 2 (some .boolean) :: ([.fieldLink RX1 18 "ThirdOfTheLast$Kitchen" "size" "I"] ++ wsX10)
def wsX3_become : List Cond := .code yX3_become cX3_become 2 none :: ([.fieldLink RX3 12 "ThirdOfTheLast$Pot" "flavour" "LThirdOfTheLast$Flavour;", .fieldLink RX3 18 "ThirdOfTheLast$Pot" "kinds" "[I", .methodLink RX3 29 arraycopyName, .native arraycopyName, .static arraycopyName, .initialized "java/lang/System", .fieldLink RX3 22 "ThirdOfTheLast$Pot" "figures" "[I", .methodLink RX3 25 yX0_become, .instanceMethod yX0_become, .selects RX0 yX0_become yX0_become, .initialized RX0, .code yX0_become cX0_become 3 none, .fieldLink RX0 9 "ThirdOfTheLast$Flavour" "above" "[J", .fieldLink RX0 15 "ThirdOfTheLast$Flavour" "below" "J", .fieldLink RX0 19 "ThirdOfTheLast$Flavour" "count" "I"] ++ wsX30 ++ wsX00)
def wsX1_become : List Cond := .code yX1_become cX1_become 3 none :: ([.fieldLink RX1 18 "ThirdOfTheLast$Kitchen" "size" "I", .fieldLink RX1 11 "ThirdOfTheLast$Kitchen" "pots" "[LThirdOfTheLast$Pot;", .methodLink RX1 22 yX3_become, .instanceMethod yX3_become, .selects RX3 yX3_become yX3_become, .initialized RX3, .code yX3_become cX3_become 2 none, .fieldLink RX3 12 "ThirdOfTheLast$Pot" "flavour" "LThirdOfTheLast$Flavour;", .fieldLink RX3 18 "ThirdOfTheLast$Pot" "kinds" "[I", .methodLink RX3 29 arraycopyName, .native arraycopyName, .static arraycopyName, .initialized "java/lang/System", .fieldLink RX3 22 "ThirdOfTheLast$Pot" "figures" "[I", .methodLink RX3 25 yX0_become, .instanceMethod yX0_become, .selects RX0 yX0_become yX0_become, .initialized RX0, .code yX0_become cX0_become 3 none, .fieldLink RX0 9 "ThirdOfTheLast$Flavour" "above" "[J", .fieldLink RX0 15 "ThirdOfTheLast$Flavour" "below" "J", .fieldLink RX0 19 "ThirdOfTheLast$Flavour" "count" "I"] ++ wsX10 ++ wsX30 ++ wsX00)
def wsX1_addPot : List Cond := .code yX1_addPot cX1_addPot 1 (some .boolean) :: ([.fieldLink RX1 18 "ThirdOfTheLast$Kitchen" "size" "I", .fieldLink RX1 11 "ThirdOfTheLast$Kitchen" "pots" "[LThirdOfTheLast$Pot;", .fieldLink RX1 26 "ThirdOfTheLast$Pot" "flavour" "LThirdOfTheLast$Flavour;", .methodLink RX1 30 yX0_clear, .instanceMethod yX0_clear, .selects RX0 yX0_clear yX0_clear, .initialized RX0, .code yX0_clear cX0_clear 2 none, .fieldLink RX0 9 "ThirdOfTheLast$Flavour" "above" "[J", .fieldLink RX0 15 "ThirdOfTheLast$Flavour" "below" "J", .fieldLink RX0 19 "ThirdOfTheLast$Flavour" "count" "I"] ++ wsX10 ++ wsX30 ++ wsX00)
def wsX1_digitsBehind : List Cond := .code yX1_digitsBehind cX1_digitsBehind 1 (some .int) :: ([])
def wsX4_hasElement : List Cond := .code yX4_hasElement cX4_hasElement 2 (some .boolean) :: ([.fieldLink RX4 28 "ThirdOfTheLast$Shelf" "size" "I"] ++ wsX40)
def wsX4_elementOr : List Cond := .code yX4_elementOr cX4_elementOr 3 (some .int) :: ([.fieldLink RX4 9 "ThirdOfTheLast$Shelf" "elements" "[I", .methodLink RX4 31 yX4_hasElement, .instanceMethod yX4_hasElement, .selects RX4 yX4_hasElement yX4_hasElement, .initialized RX4, .code yX4_hasElement cX4_hasElement 2 (some .boolean), .fieldLink RX4 28 "ThirdOfTheLast$Shelf" "size" "I"] ++ wsX40)
def wsX4_digitAt : List Cond := .code yX4_digitAt cX4_digitAt 2 (some .int) :: ([.methodLink RX4 35 yX4_elementOr, .instanceMethod yX4_elementOr, .selects RX4 yX4_elementOr yX4_elementOr, .initialized RX4, .code yX4_elementOr cX4_elementOr 3 (some .int), .fieldLink RX4 9 "ThirdOfTheLast$Shelf" "elements" "[I", .methodLink RX4 31 yX4_hasElement, .instanceMethod yX4_hasElement, .selects RX4 yX4_hasElement yX4_hasElement, .code yX4_hasElement cX4_hasElement 2 (some .boolean), .fieldLink RX4 28 "ThirdOfTheLast$Shelf" "size" "I"] ++ wsX40)
def wsX5_isNoFigure : List Cond := .code yX5_isNoFigure cX5_isNoFigure 1 (some .boolean) :: ([])
def wsX1_brokenAt : List Cond := .code yX1_brokenAt cX1_brokenAt 4 (some .int) :: ([.fieldLink RX1 52 "ThirdOfTheLast$Shelf" "size" "I", .methodLink RX1 35 yX4_elementOr, .instanceMethod yX4_elementOr, .selects RX4 yX4_elementOr yX4_elementOr, .initialized RX4, .code yX4_elementOr cX4_elementOr 3 (some .int), .fieldLink RX4 9 "ThirdOfTheLast$Shelf" "elements" "[I", .methodLink RX4 31 yX4_hasElement, .instanceMethod yX4_hasElement, .selects RX4 yX4_hasElement yX4_hasElement, .code yX4_hasElement cX4_hasElement 2 (some .boolean), .fieldLink RX4 28 "ThirdOfTheLast$Shelf" "size" "I", .methodLink RX1 41 yX1_digitsBehind, .static yX1_digitsBehind, .initialized RX1, .code yX1_digitsBehind cX1_digitsBehind 1 (some .int), .methodLink RX1 45 yX4_digitAt, .instanceMethod yX4_digitAt, .selects RX4 yX4_digitAt yX4_digitAt, .code yX4_digitAt cX4_digitAt 2 (some .int), .methodLink RX4 35 yX4_elementOr, .static yX5_isNoFigure, .initialized RX5, .code yX5_isNoFigure cX5_isNoFigure 1 (some .boolean)] ++ wsX40)
def wsX5_isNoKind : List Cond := .code yX5_isNoKind cX5_isNoKind 1 (some .boolean) :: ([])
def wsX3_cookIn : List Cond := .code yX3_cookIn cX3_cookIn 3 (some .boolean) :: ([.fieldLink RX3 12 "ThirdOfTheLast$Pot" "flavour" "LThirdOfTheLast$Flavour;", .fieldLink RX3 18 "ThirdOfTheLast$Pot" "kinds" "[I", .fieldLink RX3 39 "ThirdOfTheLast$Flavour" "count" "I", .fieldLink RX3 22 "ThirdOfTheLast$Pot" "figures" "[I", .methodLink RX3 35 yX0_hasRoom, .instanceMethod yX0_hasRoom, .selects RX0 yX0_hasRoom yX0_hasRoom, .initialized RX0, .code yX0_hasRoom cX0_hasRoom 1 (some .boolean), .fieldLink RX0 19 "ThirdOfTheLast$Flavour" "count" "I", .methodLink RX3 43 yX0_takeIn, .instanceMethod yX0_takeIn, .selects RX0 yX0_takeIn yX0_takeIn, .code yX0_takeIn cX0_takeIn 5 none, .fieldLink RX0 15 "ThirdOfTheLast$Flavour" "below" "J", .constantLong RX0 27 (9), .fieldLink RX0 9 "ThirdOfTheLast$Flavour" "above" "[J", .static yX5_keepsOf, .initialized RX5, .code yX5_keepsOf cX5_keepsOf 4 (some .int), .static yX5_ownOf, .code yX5_ownOf cX5_ownOf 6 (some .int)] ++ wsX30 ++ wsX00)
def wsX1_cookIn_r1 : List Cond := [Cond.fieldLink RX1 11 "ThirdOfTheLast$Kitchen" "pots" "[LThirdOfTheLast$Pot;", Cond.methodLink RX1 68 yX1_has, Cond.instanceMethod yX1_has, Cond.selects RX1 yX1_has yX1_has, Cond.initialized RX1, Cond.code yX1_has cX1_has 2 (some .boolean), Cond.fieldLink RX1 18 "ThirdOfTheLast$Kitchen" "size" "I", Cond.static yX5_isNoKind, Cond.initialized RX5, Cond.code yX5_isNoKind cX5_isNoKind 1 (some .boolean), Cond.static yX5_isNoFigure, Cond.code yX5_isNoFigure cX5_isNoFigure 1 (some .boolean), Cond.methodLink RX1 74 yX3_cookIn, Cond.instanceMethod yX3_cookIn, Cond.selects RX3 yX3_cookIn yX3_cookIn, Cond.initialized RX3, Cond.code yX3_cookIn cX3_cookIn 3 (some .boolean), Cond.fieldLink RX3 12 "ThirdOfTheLast$Pot" "flavour" "LThirdOfTheLast$Flavour;", Cond.fieldLink RX3 18 "ThirdOfTheLast$Pot" "kinds" "[I", Cond.fieldLink RX3 39 "ThirdOfTheLast$Flavour" "count" "I", Cond.fieldLink RX3 22 "ThirdOfTheLast$Pot" "figures" "[I", Cond.methodLink RX3 35 yX0_hasRoom, Cond.instanceMethod yX0_hasRoom, Cond.selects RX0 yX0_hasRoom yX0_hasRoom]
def wsX1_cookIn_r2 : List Cond := [Cond.initialized RX0, Cond.code yX0_hasRoom cX0_hasRoom 1 (some .boolean), Cond.fieldLink RX0 19 "ThirdOfTheLast$Flavour" "count" "I", Cond.methodLink RX3 43 yX0_takeIn, Cond.instanceMethod yX0_takeIn, Cond.selects RX0 yX0_takeIn yX0_takeIn, Cond.code yX0_takeIn cX0_takeIn 5 none, Cond.fieldLink RX0 15 "ThirdOfTheLast$Flavour" "below" "J", Cond.constantLong RX0 27 (9), Cond.fieldLink RX0 9 "ThirdOfTheLast$Flavour" "above" "[J", Cond.static yX5_keepsOf, Cond.code yX5_keepsOf cX5_keepsOf 4 (some .int), Cond.static yX5_ownOf, Cond.code yX5_ownOf cX5_ownOf 6 (some .int)]
def wsX1_cookIn : List Cond := .code yX1_cookIn cX1_cookIn 4 (some .boolean) :: ((wsX1_cookIn_r1 ++ wsX1_cookIn_r2) ++ wsX10 ++ wsX30 ++ wsX00)
def wsX1_renew : List Cond := .code yX1_renew cX1_renew 2 (some .boolean) :: ([.fieldLink RX1 11 "ThirdOfTheLast$Kitchen" "pots" "[LThirdOfTheLast$Pot;", .fieldLink RX1 26 "ThirdOfTheLast$Pot" "flavour" "LThirdOfTheLast$Flavour;", .methodLink RX1 68 yX1_has, .instanceMethod yX1_has, .selects RX1 yX1_has yX1_has, .initialized RX1, .code yX1_has cX1_has 2 (some .boolean), .fieldLink RX1 18 "ThirdOfTheLast$Kitchen" "size" "I", .methodLink RX1 30 yX0_clear, .instanceMethod yX0_clear, .selects RX0 yX0_clear yX0_clear, .initialized RX0, .code yX0_clear cX0_clear 2 none, .fieldLink RX0 9 "ThirdOfTheLast$Flavour" "above" "[J", .fieldLink RX0 15 "ThirdOfTheLast$Flavour" "below" "J", .fieldLink RX0 19 "ThirdOfTheLast$Flavour" "count" "I"] ++ wsX10 ++ wsX30 ++ wsX00)
def wsX1_makeAlike_r1 : List Cond := [Cond.fieldLink RX1 11 "ThirdOfTheLast$Kitchen" "pots" "[LThirdOfTheLast$Pot;", Cond.methodLink RX1 68 yX1_has, Cond.instanceMethod yX1_has, Cond.selects RX1 yX1_has yX1_has, Cond.initialized RX1, Cond.code yX1_has cX1_has 2 (some .boolean), Cond.fieldLink RX1 18 "ThirdOfTheLast$Kitchen" "size" "I", Cond.methodLink RX1 22 yX3_become, Cond.instanceMethod yX3_become, Cond.selects RX3 yX3_become yX3_become, Cond.initialized RX3, Cond.code yX3_become cX3_become 2 none, Cond.fieldLink RX3 12 "ThirdOfTheLast$Pot" "flavour" "LThirdOfTheLast$Flavour;", Cond.fieldLink RX3 18 "ThirdOfTheLast$Pot" "kinds" "[I", Cond.methodLink RX3 29 arraycopyName, Cond.native arraycopyName, Cond.static arraycopyName, Cond.initialized "java/lang/System", Cond.fieldLink RX3 22 "ThirdOfTheLast$Pot" "figures" "[I", Cond.methodLink RX3 25 yX0_become, Cond.instanceMethod yX0_become, Cond.selects RX0 yX0_become yX0_become, Cond.initialized RX0, Cond.code yX0_become cX0_become 3 none]
def wsX1_makeAlike_r2 : List Cond := [Cond.fieldLink RX0 9 "ThirdOfTheLast$Flavour" "above" "[J", Cond.fieldLink RX0 15 "ThirdOfTheLast$Flavour" "below" "J", Cond.fieldLink RX0 19 "ThirdOfTheLast$Flavour" "count" "I"]
def wsX1_makeAlike : List Cond := .code yX1_makeAlike cX1_makeAlike 3 (some .boolean) :: ((wsX1_makeAlike_r1 ++ wsX1_makeAlike_r2) ++ wsX10 ++ wsX30 ++ wsX00)
def wsX1_carryOut_r1 : List Cond := [Cond.methodLink RX1 45 yX4_digitAt, Cond.instanceMethod yX4_digitAt, Cond.selects RX4 yX4_digitAt yX4_digitAt, Cond.initialized RX4, Cond.code yX4_digitAt cX4_digitAt 2 (some .int), Cond.methodLink RX4 35 yX4_elementOr, Cond.instanceMethod yX4_elementOr, Cond.selects RX4 yX4_elementOr yX4_elementOr, Cond.code yX4_elementOr cX4_elementOr 3 (some .int), Cond.fieldLink RX4 9 "ThirdOfTheLast$Shelf" "elements" "[I", Cond.methodLink RX4 31 yX4_hasElement, Cond.instanceMethod yX4_hasElement, Cond.selects RX4 yX4_hasElement yX4_hasElement, Cond.code yX4_hasElement cX4_hasElement 2 (some .boolean), Cond.fieldLink RX4 28 "ThirdOfTheLast$Shelf" "size" "I", Cond.methodLink RX1 35 yX4_elementOr, Cond.methodLink RX1 53 yX1_addPot, Cond.instanceMethod yX1_addPot, Cond.selects RX1 yX1_addPot yX1_addPot, Cond.initialized RX1, Cond.code yX1_addPot cX1_addPot 1 (some .boolean), Cond.fieldLink RX1 18 "ThirdOfTheLast$Kitchen" "size" "I", Cond.fieldLink RX1 11 "ThirdOfTheLast$Kitchen" "pots" "[LThirdOfTheLast$Pot;", Cond.fieldLink RX1 26 "ThirdOfTheLast$Pot" "flavour" "LThirdOfTheLast$Flavour;"]
def wsX1_carryOut_r2 : List Cond := [Cond.methodLink RX1 30 yX0_clear, Cond.instanceMethod yX0_clear, Cond.selects RX0 yX0_clear yX0_clear, Cond.initialized RX0, Cond.code yX0_clear cX0_clear 2 none, Cond.fieldLink RX0 9 "ThirdOfTheLast$Flavour" "above" "[J", Cond.fieldLink RX0 15 "ThirdOfTheLast$Flavour" "below" "J", Cond.fieldLink RX0 19 "ThirdOfTheLast$Flavour" "count" "I", Cond.methodLink RX1 57 yX1_cookIn, Cond.instanceMethod yX1_cookIn, Cond.selects RX1 yX1_cookIn yX1_cookIn, Cond.code yX1_cookIn cX1_cookIn 4 (some .boolean), Cond.methodLink RX1 68 yX1_has, Cond.instanceMethod yX1_has, Cond.selects RX1 yX1_has yX1_has, Cond.code yX1_has cX1_has 2 (some .boolean), Cond.static yX5_isNoKind, Cond.initialized RX5, Cond.code yX5_isNoKind cX5_isNoKind 1 (some .boolean), Cond.static yX5_isNoFigure, Cond.code yX5_isNoFigure cX5_isNoFigure 1 (some .boolean), Cond.methodLink RX1 74 yX3_cookIn, Cond.instanceMethod yX3_cookIn, Cond.selects RX3 yX3_cookIn yX3_cookIn]
def wsX1_carryOut_r3 : List Cond := [Cond.initialized RX3, Cond.code yX3_cookIn cX3_cookIn 3 (some .boolean), Cond.fieldLink RX3 12 "ThirdOfTheLast$Pot" "flavour" "LThirdOfTheLast$Flavour;", Cond.fieldLink RX3 18 "ThirdOfTheLast$Pot" "kinds" "[I", Cond.fieldLink RX3 39 "ThirdOfTheLast$Flavour" "count" "I", Cond.fieldLink RX3 22 "ThirdOfTheLast$Pot" "figures" "[I", Cond.methodLink RX3 35 yX0_hasRoom, Cond.instanceMethod yX0_hasRoom, Cond.selects RX0 yX0_hasRoom yX0_hasRoom, Cond.code yX0_hasRoom cX0_hasRoom 1 (some .boolean), Cond.methodLink RX3 43 yX0_takeIn, Cond.instanceMethod yX0_takeIn, Cond.selects RX0 yX0_takeIn yX0_takeIn, Cond.code yX0_takeIn cX0_takeIn 5 none, Cond.constantLong RX0 27 (9), Cond.static yX5_keepsOf, Cond.code yX5_keepsOf cX5_keepsOf 4 (some .int), Cond.static yX5_ownOf, Cond.code yX5_ownOf cX5_ownOf 6 (some .int), Cond.methodLink RX1 61 yX1_renew, Cond.instanceMethod yX1_renew, Cond.selects RX1 yX1_renew yX1_renew, Cond.code yX1_renew cX1_renew 2 (some .boolean), Cond.methodLink RX1 64 yX1_makeAlike]
def wsX1_carryOut_r4 : List Cond := [Cond.instanceMethod yX1_makeAlike, Cond.selects RX1 yX1_makeAlike yX1_makeAlike, Cond.code yX1_makeAlike cX1_makeAlike 3 (some .boolean), Cond.methodLink RX1 22 yX3_become, Cond.instanceMethod yX3_become, Cond.selects RX3 yX3_become yX3_become, Cond.code yX3_become cX3_become 2 none, Cond.methodLink RX3 29 arraycopyName, Cond.native arraycopyName, Cond.static arraycopyName, Cond.initialized "java/lang/System", Cond.methodLink RX3 25 yX0_become, Cond.instanceMethod yX0_become, Cond.selects RX0 yX0_become yX0_become, Cond.code yX0_become cX0_become 3 none]
def wsX1_carryOut : List Cond := .code yX1_carryOut cX1_carryOut 5 (some .boolean) :: ((wsX1_carryOut_r1 ++ (wsX1_carryOut_r2 ++ (wsX1_carryOut_r3 ++ wsX1_carryOut_r4))) ++ wsX40 ++ wsX10 ++ wsX30 ++ wsX00)
def wsX2_init : List Cond := .code yX2_init cX2_init 2 none :: ([.methodLink RX2 3 objectInit, .instanceMethod objectInit, .code objectInit ⟨#[0xb1]⟩ 1 none, .classLink RX2 9 RX0, .fieldLink RX2 11 "ThirdOfTheLast$Mind" "pots" "[LThirdOfTheLast$Flavour;", .fieldLink RX2 17 "ThirdOfTheLast$Mind" "before" "[LThirdOfTheLast$Flavour;", .instantiable RX0 3, .initialized RX0, .instanceMethod yX0_init, .code yX0_init cX0_init 1 none, .methodLink RX0 3 objectInit, .arrayClass .long, .fieldLink RX0 9 "ThirdOfTheLast$Flavour" "above" "[J", .fieldLink RX0 15 "ThirdOfTheLast$Flavour" "below" "J"] ++ wsX20 ++ wsX00)
def wsX2_thinkOf : List Cond := .code yX2_thinkOf cX2_thinkOf 5 none :: ([.fieldLink RX2 21 "ThirdOfTheLast$Kitchen" "size" "I", .fieldLink RX2 27 "ThirdOfTheLast$Mind" "size" "I", .fieldLink RX2 28 "ThirdOfTheLast$Mind" "bans" "I", .fieldLink RX2 31 "ThirdOfTheLast$Mind" "p" "I", .fieldLink RX2 11 "ThirdOfTheLast$Mind" "pots" "[LThirdOfTheLast$Flavour;", .fieldLink RX2 34 "ThirdOfTheLast$Kitchen" "pots" "[LThirdOfTheLast$Pot;", .fieldLink RX2 37 "ThirdOfTheLast$Pot" "flavour" "LThirdOfTheLast$Flavour;", .methodLink RX2 43 yX0_become, .instanceMethod yX0_become, .selects RX0 yX0_become yX0_become, .initialized RX0, .code yX0_become cX0_become 3 none, .fieldLink RX0 9 "ThirdOfTheLast$Flavour" "above" "[J", .fieldLink RX0 15 "ThirdOfTheLast$Flavour" "below" "J", .fieldLink RX0 19 "ThirdOfTheLast$Flavour" "count" "I"] ++ wsX10 ++ wsX20 ++ wsX30 ++ wsX00)
def wsX2_staysGood_r1 : List Cond := [Cond.fieldLink RX2 28 "ThirdOfTheLast$Mind" "bans" "I", Cond.fieldLink RX2 31 "ThirdOfTheLast$Mind" "p" "I", Cond.methodLink RX2 68 yX0_hasRoom, Cond.instanceMethod yX0_hasRoom, Cond.selects RX0 yX0_hasRoom yX0_hasRoom, Cond.initialized RX0, Cond.code yX0_hasRoom cX0_hasRoom 1 (some .boolean), Cond.fieldLink RX0 19 "ThirdOfTheLast$Flavour" "count" "I", Cond.methodLink RX2 72 yX4_elementOr, Cond.instanceMethod yX4_elementOr, Cond.selects RX4 yX4_elementOr yX4_elementOr, Cond.initialized RX4, Cond.code yX4_elementOr cX4_elementOr 3 (some .int), Cond.fieldLink RX4 9 "ThirdOfTheLast$Shelf" "elements" "[I", Cond.methodLink RX4 31 yX4_hasElement, Cond.instanceMethod yX4_hasElement, Cond.selects RX4 yX4_hasElement yX4_hasElement, Cond.code yX4_hasElement cX4_hasElement 2 (some .boolean), Cond.fieldLink RX4 28 "ThirdOfTheLast$Shelf" "size" "I", Cond.methodLink RX2 76 yX0_takeIn, Cond.instanceMethod yX0_takeIn, Cond.selects RX0 yX0_takeIn yX0_takeIn, Cond.code yX0_takeIn cX0_takeIn 5 none, Cond.fieldLink RX0 15 "ThirdOfTheLast$Flavour" "below" "J"]
def wsX2_staysGood_r2 : List Cond := [Cond.constantLong RX0 27 (9), Cond.fieldLink RX0 9 "ThirdOfTheLast$Flavour" "above" "[J", Cond.static yX5_keepsOf, Cond.initialized RX5, Cond.code yX5_keepsOf cX5_keepsOf 4 (some .int), Cond.static yX5_ownOf, Cond.code yX5_ownOf cX5_ownOf 6 (some .int), Cond.methodLink RX2 80 yX0_isHarmful, Cond.instanceMethod yX0_isHarmful, Cond.selects RX0 yX0_isHarmful yX0_isHarmful, Cond.code yX0_isHarmful cX0_isHarmful 6 (some .boolean), Cond.constantLong RX0 45 (100), Cond.methodLink RX0 41 yX0_totalAbove, Cond.instanceMethod yX0_totalAbove, Cond.selects RX0 yX0_totalAbove yX0_totalAbove, Cond.code yX0_totalAbove cX0_totalAbove 4 (some .long)]
def wsX2_staysGood : List Cond := .code yX2_staysGood cX2_staysGood 4 (some .boolean) :: ((wsX2_staysGood_r1 ++ wsX2_staysGood_r2) ++ wsX20 ++ wsX00 ++ wsX40)
def wsX2_firstHarm_r1 : List Cond := [Cond.fieldLink RX2 47 "ThirdOfTheLast$Shelf" "size" "I", Cond.fieldLink RX2 50 "ThirdOfTheLast$Shelf" "elements" "[I", Cond.fieldLink RX2 27 "ThirdOfTheLast$Mind" "size" "I", Cond.fieldLink RX2 11 "ThirdOfTheLast$Mind" "pots" "[LThirdOfTheLast$Flavour;", Cond.methodLink RX2 54 yX2_staysGood, Cond.instanceMethod yX2_staysGood, Cond.selects RX2 yX2_staysGood yX2_staysGood, Cond.initialized RX2, Cond.code yX2_staysGood cX2_staysGood 4 (some .boolean), Cond.fieldLink RX2 28 "ThirdOfTheLast$Mind" "bans" "I", Cond.fieldLink RX2 31 "ThirdOfTheLast$Mind" "p" "I", Cond.methodLink RX2 68 yX0_hasRoom, Cond.instanceMethod yX0_hasRoom, Cond.selects RX0 yX0_hasRoom yX0_hasRoom, Cond.initialized RX0, Cond.code yX0_hasRoom cX0_hasRoom 1 (some .boolean), Cond.fieldLink RX0 19 "ThirdOfTheLast$Flavour" "count" "I", Cond.methodLink RX2 72 yX4_elementOr, Cond.instanceMethod yX4_elementOr, Cond.selects RX4 yX4_elementOr yX4_elementOr, Cond.initialized RX4, Cond.code yX4_elementOr cX4_elementOr 3 (some .int), Cond.fieldLink RX4 9 "ThirdOfTheLast$Shelf" "elements" "[I", Cond.methodLink RX4 31 yX4_hasElement]
def wsX2_firstHarm_r2 : List Cond := [Cond.instanceMethod yX4_hasElement, Cond.selects RX4 yX4_hasElement yX4_hasElement, Cond.code yX4_hasElement cX4_hasElement 2 (some .boolean), Cond.fieldLink RX4 28 "ThirdOfTheLast$Shelf" "size" "I", Cond.methodLink RX2 76 yX0_takeIn, Cond.instanceMethod yX0_takeIn, Cond.selects RX0 yX0_takeIn yX0_takeIn, Cond.code yX0_takeIn cX0_takeIn 5 none, Cond.fieldLink RX0 15 "ThirdOfTheLast$Flavour" "below" "J", Cond.constantLong RX0 27 (9), Cond.fieldLink RX0 9 "ThirdOfTheLast$Flavour" "above" "[J", Cond.static yX5_keepsOf, Cond.initialized RX5, Cond.code yX5_keepsOf cX5_keepsOf 4 (some .int), Cond.static yX5_ownOf, Cond.code yX5_ownOf cX5_ownOf 6 (some .int), Cond.methodLink RX2 80 yX0_isHarmful, Cond.instanceMethod yX0_isHarmful, Cond.selects RX0 yX0_isHarmful yX0_isHarmful, Cond.code yX0_isHarmful cX0_isHarmful 6 (some .boolean), Cond.constantLong RX0 45 (100), Cond.methodLink RX0 41 yX0_totalAbove, Cond.instanceMethod yX0_totalAbove, Cond.selects RX0 yX0_totalAbove yX0_totalAbove]
def wsX2_firstHarm_r3 : List Cond := [Cond.code yX0_totalAbove cX0_totalAbove 4 (some .long)]
def wsX2_firstHarm : List Cond := .code yX2_firstHarm cX2_firstHarm 4 (some .int) :: ((wsX2_firstHarm_r1 ++ (wsX2_firstHarm_r2 ++ wsX2_firstHarm_r3)) ++ wsX40 ++ wsX20 ++ wsX00)
def wsX2_spread_r1 : List Cond := [Cond.fieldLink RX2 47 "ThirdOfTheLast$Shelf" "size" "I", Cond.fieldLink RX2 58 "ThirdOfTheLast$Mind" "ways" "I", Cond.fieldLink RX2 61 "ThirdOfTheLast$Mind" "firstWay" "I", Cond.fieldLink RX2 17 "ThirdOfTheLast$Mind" "before" "[LThirdOfTheLast$Flavour;", Cond.fieldLink RX2 27 "ThirdOfTheLast$Mind" "size" "I", Cond.fieldLink RX2 11 "ThirdOfTheLast$Mind" "pots" "[LThirdOfTheLast$Flavour;", Cond.methodLink RX2 43 yX0_become, Cond.instanceMethod yX0_become, Cond.selects RX0 yX0_become yX0_become, Cond.initialized RX0, Cond.code yX0_become cX0_become 3 none, Cond.fieldLink RX0 9 "ThirdOfTheLast$Flavour" "above" "[J", Cond.fieldLink RX0 15 "ThirdOfTheLast$Flavour" "below" "J", Cond.fieldLink RX0 19 "ThirdOfTheLast$Flavour" "count" "I", Cond.methodLink RX2 54 yX2_staysGood, Cond.instanceMethod yX2_staysGood, Cond.selects RX2 yX2_staysGood yX2_staysGood, Cond.initialized RX2, Cond.code yX2_staysGood cX2_staysGood 4 (some .boolean), Cond.fieldLink RX2 28 "ThirdOfTheLast$Mind" "bans" "I", Cond.fieldLink RX2 31 "ThirdOfTheLast$Mind" "p" "I", Cond.methodLink RX2 68 yX0_hasRoom, Cond.instanceMethod yX0_hasRoom, Cond.selects RX0 yX0_hasRoom yX0_hasRoom]
def wsX2_spread_r2 : List Cond := [Cond.code yX0_hasRoom cX0_hasRoom 1 (some .boolean), Cond.methodLink RX2 72 yX4_elementOr, Cond.instanceMethod yX4_elementOr, Cond.selects RX4 yX4_elementOr yX4_elementOr, Cond.initialized RX4, Cond.code yX4_elementOr cX4_elementOr 3 (some .int), Cond.fieldLink RX4 9 "ThirdOfTheLast$Shelf" "elements" "[I", Cond.methodLink RX4 31 yX4_hasElement, Cond.instanceMethod yX4_hasElement, Cond.selects RX4 yX4_hasElement yX4_hasElement, Cond.code yX4_hasElement cX4_hasElement 2 (some .boolean), Cond.fieldLink RX4 28 "ThirdOfTheLast$Shelf" "size" "I", Cond.methodLink RX2 76 yX0_takeIn, Cond.instanceMethod yX0_takeIn, Cond.selects RX0 yX0_takeIn yX0_takeIn, Cond.code yX0_takeIn cX0_takeIn 5 none, Cond.constantLong RX0 27 (9), Cond.static yX5_keepsOf, Cond.initialized RX5, Cond.code yX5_keepsOf cX5_keepsOf 4 (some .int), Cond.static yX5_ownOf, Cond.code yX5_ownOf cX5_ownOf 6 (some .int), Cond.methodLink RX2 80 yX0_isHarmful, Cond.instanceMethod yX0_isHarmful]
def wsX2_spread_r3 : List Cond := [Cond.selects RX0 yX0_isHarmful yX0_isHarmful, Cond.code yX0_isHarmful cX0_isHarmful 6 (some .boolean), Cond.constantLong RX0 45 (100), Cond.methodLink RX0 41 yX0_totalAbove, Cond.instanceMethod yX0_totalAbove, Cond.selects RX0 yX0_totalAbove yX0_totalAbove, Cond.code yX0_totalAbove cX0_totalAbove 4 (some .long), Cond.methodLink RX2 64 yX2_spread, Cond.static yX2_spread]
def wsX2_spread : List Cond := .code yX2_spread cX2_spread 7 none :: ((wsX2_spread_r1 ++ (wsX2_spread_r2 ++ wsX2_spread_r3)) ++ wsX40 ++ wsX20 ++ wsX00)
def wsX2_countWays_r1 : List Cond := [Cond.fieldLink RX2 58 "ThirdOfTheLast$Mind" "ways" "I", Cond.fieldLink RX2 61 "ThirdOfTheLast$Mind" "firstWay" "I", Cond.methodLink RX2 64 yX2_spread, Cond.static yX2_spread, Cond.initialized RX2, Cond.code yX2_spread cX2_spread 7 none, Cond.fieldLink RX2 47 "ThirdOfTheLast$Shelf" "size" "I", Cond.fieldLink RX2 17 "ThirdOfTheLast$Mind" "before" "[LThirdOfTheLast$Flavour;", Cond.fieldLink RX2 27 "ThirdOfTheLast$Mind" "size" "I", Cond.fieldLink RX2 11 "ThirdOfTheLast$Mind" "pots" "[LThirdOfTheLast$Flavour;", Cond.methodLink RX2 43 yX0_become, Cond.instanceMethod yX0_become, Cond.selects RX0 yX0_become yX0_become, Cond.initialized RX0, Cond.code yX0_become cX0_become 3 none, Cond.fieldLink RX0 9 "ThirdOfTheLast$Flavour" "above" "[J", Cond.fieldLink RX0 15 "ThirdOfTheLast$Flavour" "below" "J", Cond.fieldLink RX0 19 "ThirdOfTheLast$Flavour" "count" "I", Cond.methodLink RX2 54 yX2_staysGood, Cond.instanceMethod yX2_staysGood, Cond.selects RX2 yX2_staysGood yX2_staysGood, Cond.code yX2_staysGood cX2_staysGood 4 (some .boolean), Cond.fieldLink RX2 28 "ThirdOfTheLast$Mind" "bans" "I", Cond.fieldLink RX2 31 "ThirdOfTheLast$Mind" "p" "I"]
def wsX2_countWays_r2 : List Cond := [Cond.methodLink RX2 68 yX0_hasRoom, Cond.instanceMethod yX0_hasRoom, Cond.selects RX0 yX0_hasRoom yX0_hasRoom, Cond.code yX0_hasRoom cX0_hasRoom 1 (some .boolean), Cond.methodLink RX2 72 yX4_elementOr, Cond.instanceMethod yX4_elementOr, Cond.selects RX4 yX4_elementOr yX4_elementOr, Cond.initialized RX4, Cond.code yX4_elementOr cX4_elementOr 3 (some .int), Cond.fieldLink RX4 9 "ThirdOfTheLast$Shelf" "elements" "[I", Cond.methodLink RX4 31 yX4_hasElement, Cond.instanceMethod yX4_hasElement, Cond.selects RX4 yX4_hasElement yX4_hasElement, Cond.code yX4_hasElement cX4_hasElement 2 (some .boolean), Cond.fieldLink RX4 28 "ThirdOfTheLast$Shelf" "size" "I", Cond.methodLink RX2 76 yX0_takeIn, Cond.instanceMethod yX0_takeIn, Cond.selects RX0 yX0_takeIn yX0_takeIn, Cond.code yX0_takeIn cX0_takeIn 5 none, Cond.constantLong RX0 27 (9), Cond.static yX5_keepsOf, Cond.initialized RX5, Cond.code yX5_keepsOf cX5_keepsOf 4 (some .int), Cond.static yX5_ownOf]
def wsX2_countWays_r3 : List Cond := [Cond.code yX5_ownOf cX5_ownOf 6 (some .int), Cond.methodLink RX2 80 yX0_isHarmful, Cond.instanceMethod yX0_isHarmful, Cond.selects RX0 yX0_isHarmful yX0_isHarmful, Cond.code yX0_isHarmful cX0_isHarmful 6 (some .boolean), Cond.constantLong RX0 45 (100), Cond.methodLink RX0 41 yX0_totalAbove, Cond.instanceMethod yX0_totalAbove, Cond.selects RX0 yX0_totalAbove yX0_totalAbove, Cond.code yX0_totalAbove cX0_totalAbove 4 (some .long)]
def wsX2_countWays : List Cond := .code yX2_countWays cX2_countWays 2 none :: ((wsX2_countWays_r1 ++ (wsX2_countWays_r2 ++ wsX2_countWays_r3)) ++ wsX20 ++ wsX40 ++ wsX00)
def wsX3_hasDish : List Cond := .code yX3_hasDish cX3_hasDish 2 (some .boolean) :: ([.fieldLink RX3 12 "ThirdOfTheLast$Pot" "flavour" "LThirdOfTheLast$Flavour;", .fieldLink RX3 39 "ThirdOfTheLast$Flavour" "count" "I"] ++ wsX30 ++ wsX00)
def wsX3_kindOf : List Cond := .code yX3_kindOf cX3_kindOf 2 (some .int) :: ([.fieldLink RX3 18 "ThirdOfTheLast$Pot" "kinds" "[I", .fieldLink RX3 12 "ThirdOfTheLast$Pot" "flavour" "LThirdOfTheLast$Flavour;", .fieldLink RX3 39 "ThirdOfTheLast$Flavour" "count" "I"] ++ wsX30 ++ wsX00)
def wsX3_figureOf : List Cond := .code yX3_figureOf cX3_figureOf 2 (some .int) :: ([.fieldLink RX3 22 "ThirdOfTheLast$Pot" "figures" "[I", .fieldLink RX3 12 "ThirdOfTheLast$Pot" "flavour" "LThirdOfTheLast$Flavour;", .fieldLink RX3 39 "ThirdOfTheLast$Flavour" "count" "I"] ++ wsX30 ++ wsX00)
def wsX3_leftAbove : List Cond := .code yX3_leftAbove cX3_leftAbove 5 (some .long) :: ([.methodLink RX3 47 yX3_kindOf, .instanceMethod yX3_kindOf, .selects RX3 yX3_kindOf yX3_kindOf, .initialized RX3, .code yX3_kindOf cX3_kindOf 2 (some .int), .fieldLink RX3 18 "ThirdOfTheLast$Pot" "kinds" "[I", .fieldLink RX3 12 "ThirdOfTheLast$Pot" "flavour" "LThirdOfTheLast$Flavour;", .fieldLink RX3 39 "ThirdOfTheLast$Flavour" "count" "I", .static yX5_keepsOf, .initialized RX5, .code yX5_keepsOf cX5_keepsOf 4 (some .int)] ++ wsX30 ++ wsX00)
def wsX3_howManyOf : List Cond := .code yX3_howManyOf cX3_howManyOf 4 (some .int) :: ([.fieldLink RX3 12 "ThirdOfTheLast$Pot" "flavour" "LThirdOfTheLast$Flavour;", .fieldLink RX3 39 "ThirdOfTheLast$Flavour" "count" "I", .fieldLink RX3 18 "ThirdOfTheLast$Pot" "kinds" "[I"] ++ wsX30 ++ wsX00)
def wsX4_init : List Cond := .code yX4_init cX4_init 1 none :: ([.methodLink RX4 3 objectInit, .instanceMethod objectInit, .code objectInit ⟨#[0xb1]⟩ 1 none, .arrayClass .int, .fieldLink RX4 9 "ThirdOfTheLast$Shelf" "elements" "[I"] ++ wsX40)
def wsX4_holdNothing : List Cond := .code yX4_holdNothing cX4_holdNothing 1 none :: ([.fieldLink RX4 15 "ThirdOfTheLast$Shelf" "held" "I"] ++ wsX40)
def wsX4_holdDish : List Cond := .code yX4_holdDish cX4_holdDish 3 none :: ([.fieldLink RX4 15 "ThirdOfTheLast$Shelf" "held" "I", .fieldLink RX4 19 "ThirdOfTheLast$Shelf" "kind" "I", .fieldLink RX4 22 "ThirdOfTheLast$Shelf" "figure" "I"] ++ wsX40)
def wsX4_holdRow : List Cond := .code yX4_holdRow cX4_holdRow 4 none :: ([.fieldLink RX4 15 "ThirdOfTheLast$Shelf" "held" "I", .fieldLink RX4 25 "ThirdOfTheLast$Shelf" "sort" "I", .fieldLink RX4 28 "ThirdOfTheLast$Shelf" "size" "I", .fieldLink RX4 9 "ThirdOfTheLast$Shelf" "elements" "[I"] ++ wsX40)
def wsX4_holdsNothing : List Cond := .code yX4_holdsNothing cX4_holdsNothing 1 (some .boolean) :: ([.fieldLink RX4 15 "ThirdOfTheLast$Shelf" "held" "I"] ++ wsX40)
def wsX4_holdsRow : List Cond := .code yX4_holdsRow cX4_holdsRow 1 (some .boolean) :: ([.fieldLink RX4 15 "ThirdOfTheLast$Shelf" "held" "I"] ++ wsX40)
def wsX4_hasElements : List Cond := .code yX4_hasElements cX4_hasElements 3 (some .boolean) :: ([.fieldLink RX4 28 "ThirdOfTheLast$Shelf" "size" "I"] ++ wsX40)
def wsX4_hasDishAt : List Cond := .code yX4_hasDishAt cX4_hasDishAt 2 (some .boolean) :: ([.methodLink RX4 35 yX4_elementOr, .instanceMethod yX4_elementOr, .selects RX4 yX4_elementOr yX4_elementOr, .initialized RX4, .code yX4_elementOr cX4_elementOr 3 (some .int), .fieldLink RX4 9 "ThirdOfTheLast$Shelf" "elements" "[I", .methodLink RX4 31 yX4_hasElement, .instanceMethod yX4_hasElement, .selects RX4 yX4_hasElement yX4_hasElement, .code yX4_hasElement cX4_hasElement 2 (some .boolean), .fieldLink RX4 28 "ThirdOfTheLast$Shelf" "size" "I", .static yX5_isNoKind, .initialized RX5, .code yX5_isNoKind cX5_isNoKind 1 (some .boolean), .static yX5_isNoFigure, .code yX5_isNoFigure cX5_isNoFigure 1 (some .boolean)] ++ wsX40)
def wsX4_lowestBits : List Cond := .code yX4_lowestBits cX4_lowestBits 2 (some .int) :: ([.fieldLink RX4 25 "ThirdOfTheLast$Shelf" "sort" "I"] ++ wsX40)
def wsX4_leastNumber : List Cond := .code yX4_leastNumber cX4_leastNumber 1 (some .int) :: ([.fieldLink RX4 25 "ThirdOfTheLast$Shelf" "sort" "I", .constant RX4 45 (-2147483648)] ++ wsX40)
def wsX5_init_r1 : List Cond := [Cond.methodLink RX5 1 objectInit, Cond.instanceMethod objectInit, Cond.code objectInit ⟨#[0xb1]⟩ 1 none, Cond.classLink RX5 7 RX1, Cond.instantiable RX1 2, Cond.initialized RX1, Cond.fieldLink RX5 10 "ThirdOfTheLast" "now" "LThirdOfTheLast$Kitchen;", Cond.fieldLink RX5 16 "ThirdOfTheLast" "tried" "LThirdOfTheLast$Kitchen;", Cond.fieldLink RX5 19 "ThirdOfTheLast" "kept" "LThirdOfTheLast$Kitchen;", Cond.classLink RX5 22 RX2, Cond.instantiable RX2 7, Cond.initialized RX2, Cond.fieldLink RX5 25 "ThirdOfTheLast" "mind" "LThirdOfTheLast$Mind;", Cond.classLink RX5 29 RX0, Cond.instantiable RX0 3, Cond.initialized RX0, Cond.fieldLink RX5 32 "ThirdOfTheLast" "trial" "LThirdOfTheLast$Flavour;", Cond.arrayClass .int, Cond.fieldLink RX5 36 "ThirdOfTheLast" "portions" "[I", Cond.classLink RX5 40 RX4, Cond.fieldLink RX5 42 "ThirdOfTheLast" "shelves" "[LThirdOfTheLast$Shelf;", Cond.instantiable RX4 6, Cond.initialized RX4, Cond.methodLink RX5 9 yX1_init]
def wsX5_init_r2 : List Cond := [Cond.instanceMethod yX1_init, Cond.code yX1_init cX1_init 2 none, Cond.methodLink RX1 3 objectInit, Cond.classLink RX1 9 RX3, Cond.fieldLink RX1 11 "ThirdOfTheLast$Kitchen" "pots" "[LThirdOfTheLast$Pot;", Cond.instantiable RX3 3, Cond.initialized RX3, Cond.instanceMethod yX3_init, Cond.code yX3_init cX3_init 1 none, Cond.methodLink RX3 3 objectInit, Cond.classLink RX3 9 RX0, Cond.fieldLink RX3 12 "ThirdOfTheLast$Pot" "flavour" "LThirdOfTheLast$Flavour;", Cond.fieldLink RX3 18 "ThirdOfTheLast$Pot" "kinds" "[I", Cond.fieldLink RX3 22 "ThirdOfTheLast$Pot" "figures" "[I", Cond.instanceMethod yX0_init, Cond.code yX0_init cX0_init 1 none, Cond.methodLink RX0 3 objectInit, Cond.arrayClass .long, Cond.fieldLink RX0 9 "ThirdOfTheLast$Flavour" "above" "[J", Cond.fieldLink RX0 15 "ThirdOfTheLast$Flavour" "below" "J", Cond.methodLink RX5 24 yX2_init, Cond.instanceMethod yX2_init, Cond.code yX2_init cX2_init 2 none, Cond.methodLink RX2 3 objectInit]
def wsX5_init_r3 : List Cond := [Cond.classLink RX2 9 RX0, Cond.fieldLink RX2 11 "ThirdOfTheLast$Mind" "pots" "[LThirdOfTheLast$Flavour;", Cond.fieldLink RX2 17 "ThirdOfTheLast$Mind" "before" "[LThirdOfTheLast$Flavour;", Cond.instanceMethod yX4_init, Cond.code yX4_init cX4_init 1 none, Cond.methodLink RX4 3 objectInit, Cond.fieldLink RX4 9 "ThirdOfTheLast$Shelf" "elements" "[I"]
def wsX5_init : List Cond := .code yX5_init cX5_init 2 none :: ((wsX5_init_r1 ++ (wsX5_init_r2 ++ wsX5_init_r3)) ++ wsX10 ++ wsX50 ++ wsX20 ++ wsX00 ++ wsX40 ++ wsX30)
def wsX5_isNoShelf : List Cond := .code yX5_isNoShelf cX5_isNoShelf 1 (some .boolean) :: ([])
def wsX5_rowRefusal : List Cond := .code yX5_rowRefusal cX5_rowRefusal 2 (some .int) :: ([.fieldLink RX5 42 "ThirdOfTheLast" "shelves" "[LThirdOfTheLast$Shelf;", .methodLink RX5 183 yX5_isNoShelf, .static yX5_isNoShelf, .initialized RX5, .code yX5_isNoShelf cX5_isNoShelf 1 (some .boolean), .methodLink RX5 300 yX4_holdsNothing, .instanceMethod yX4_holdsNothing, .selects RX4 yX4_holdsNothing yX4_holdsNothing, .initialized RX4, .code yX4_holdsNothing cX4_holdsNothing 1 (some .boolean), .fieldLink RX4 15 "ThirdOfTheLast$Shelf" "held" "I", .methodLink RX5 294 yX4_holdsRow, .instanceMethod yX4_holdsRow, .selects RX4 yX4_holdsRow yX4_holdsRow, .code yX4_holdsRow cX4_holdsRow 1 (some .boolean)] ++ wsX50 ++ wsX40)
def wsX5_bytesRefusal : List Cond := .code yX5_bytesRefusal cX5_bytesRefusal 3 (some .int) :: ([.fieldLink RX5 42 "ThirdOfTheLast" "shelves" "[LThirdOfTheLast$Shelf;", .fieldLink RX5 303 "ThirdOfTheLast$Shelf" "sort" "I", .methodLink RX5 257 yX5_rowRefusal, .instanceMethod yX5_rowRefusal, .selects RX5 yX5_rowRefusal yX5_rowRefusal, .initialized RX5, .code yX5_rowRefusal cX5_rowRefusal 2 (some .int), .methodLink RX5 183 yX5_isNoShelf, .static yX5_isNoShelf, .code yX5_isNoShelf cX5_isNoShelf 1 (some .boolean), .methodLink RX5 300 yX4_holdsNothing, .instanceMethod yX4_holdsNothing, .selects RX4 yX4_holdsNothing yX4_holdsNothing, .initialized RX4, .code yX4_holdsNothing cX4_holdsNothing 1 (some .boolean), .fieldLink RX4 15 "ThirdOfTheLast$Shelf" "held" "I", .methodLink RX5 294 yX4_holdsRow, .instanceMethod yX4_holdsRow, .selects RX4 yX4_holdsRow yX4_holdsRow, .code yX4_holdsRow cX4_holdsRow 1 (some .boolean)] ++ wsX50 ++ wsX40)
def wsX5_kitchen_r1 : List Cond := [Cond.fieldLink RX5 42 "ThirdOfTheLast" "shelves" "[LThirdOfTheLast$Shelf;", Cond.fieldLink RX5 16 "ThirdOfTheLast" "tried" "LThirdOfTheLast$Kitchen;", Cond.fieldLink RX5 10 "ThirdOfTheLast" "now" "LThirdOfTheLast$Kitchen;", Cond.fieldLink RX5 59 "ThirdOfTheLast$Shelf" "size" "I", Cond.methodLink RX5 47 yX5_bytesRefusal, Cond.instanceMethod yX5_bytesRefusal, Cond.selects RX5 yX5_bytesRefusal yX5_bytesRefusal, Cond.initialized RX5, Cond.code yX5_bytesRefusal cX5_bytesRefusal 3 (some .int), Cond.fieldLink RX5 303 "ThirdOfTheLast$Shelf" "sort" "I", Cond.methodLink RX5 257 yX5_rowRefusal, Cond.instanceMethod yX5_rowRefusal, Cond.selects RX5 yX5_rowRefusal yX5_rowRefusal, Cond.code yX5_rowRefusal cX5_rowRefusal 2 (some .int), Cond.methodLink RX5 183 yX5_isNoShelf, Cond.static yX5_isNoShelf, Cond.code yX5_isNoShelf cX5_isNoShelf 1 (some .boolean), Cond.methodLink RX5 300 yX4_holdsNothing, Cond.instanceMethod yX4_holdsNothing, Cond.selects RX4 yX4_holdsNothing yX4_holdsNothing, Cond.initialized RX4, Cond.code yX4_holdsNothing cX4_holdsNothing 1 (some .boolean), Cond.fieldLink RX4 15 "ThirdOfTheLast$Shelf" "held" "I", Cond.methodLink RX5 294 yX4_holdsRow]
def wsX5_kitchen_r2 : List Cond := [Cond.instanceMethod yX4_holdsRow, Cond.selects RX4 yX4_holdsRow yX4_holdsRow, Cond.code yX4_holdsRow cX4_holdsRow 1 (some .boolean), Cond.methodLink RX5 51 yX1_brokenAt, Cond.static yX1_brokenAt, Cond.initialized RX1, Cond.code yX1_brokenAt cX1_brokenAt 4 (some .int), Cond.fieldLink RX1 52 "ThirdOfTheLast$Shelf" "size" "I", Cond.methodLink RX1 35 yX4_elementOr, Cond.instanceMethod yX4_elementOr, Cond.selects RX4 yX4_elementOr yX4_elementOr, Cond.code yX4_elementOr cX4_elementOr 3 (some .int), Cond.fieldLink RX4 9 "ThirdOfTheLast$Shelf" "elements" "[I", Cond.methodLink RX4 31 yX4_hasElement, Cond.instanceMethod yX4_hasElement, Cond.selects RX4 yX4_hasElement yX4_hasElement, Cond.code yX4_hasElement cX4_hasElement 2 (some .boolean), Cond.fieldLink RX4 28 "ThirdOfTheLast$Shelf" "size" "I", Cond.methodLink RX1 41 yX1_digitsBehind, Cond.static yX1_digitsBehind, Cond.code yX1_digitsBehind cX1_digitsBehind 1 (some .int), Cond.methodLink RX1 45 yX4_digitAt, Cond.instanceMethod yX4_digitAt, Cond.selects RX4 yX4_digitAt yX4_digitAt]
def wsX5_kitchen_r3 : List Cond := [Cond.code yX4_digitAt cX4_digitAt 2 (some .int), Cond.methodLink RX4 35 yX4_elementOr, Cond.static yX5_isNoFigure, Cond.code yX5_isNoFigure cX5_isNoFigure 1 (some .boolean), Cond.methodLink RX5 55 yX1_become, Cond.instanceMethod yX1_become, Cond.selects RX1 yX1_become yX1_become, Cond.code yX1_become cX1_become 3 none, Cond.fieldLink RX1 18 "ThirdOfTheLast$Kitchen" "size" "I", Cond.fieldLink RX1 11 "ThirdOfTheLast$Kitchen" "pots" "[LThirdOfTheLast$Pot;", Cond.methodLink RX1 22 yX3_become, Cond.instanceMethod yX3_become, Cond.selects RX3 yX3_become yX3_become, Cond.initialized RX3, Cond.code yX3_become cX3_become 2 none, Cond.fieldLink RX3 12 "ThirdOfTheLast$Pot" "flavour" "LThirdOfTheLast$Flavour;", Cond.fieldLink RX3 18 "ThirdOfTheLast$Pot" "kinds" "[I", Cond.methodLink RX3 29 arraycopyName, Cond.native arraycopyName, Cond.static arraycopyName, Cond.initialized "java/lang/System", Cond.fieldLink RX3 22 "ThirdOfTheLast$Pot" "figures" "[I", Cond.methodLink RX3 25 yX0_become, Cond.instanceMethod yX0_become]
def wsX5_kitchen_r4 : List Cond := [Cond.selects RX0 yX0_become yX0_become, Cond.initialized RX0, Cond.code yX0_become cX0_become 3 none, Cond.fieldLink RX0 9 "ThirdOfTheLast$Flavour" "above" "[J", Cond.fieldLink RX0 15 "ThirdOfTheLast$Flavour" "below" "J", Cond.fieldLink RX0 19 "ThirdOfTheLast$Flavour" "count" "I", Cond.methodLink RX5 63 yX1_carryOut, Cond.instanceMethod yX1_carryOut, Cond.selects RX1 yX1_carryOut yX1_carryOut, Cond.code yX1_carryOut cX1_carryOut 5 (some .boolean), Cond.methodLink RX1 53 yX1_addPot, Cond.instanceMethod yX1_addPot, Cond.selects RX1 yX1_addPot yX1_addPot, Cond.code yX1_addPot cX1_addPot 1 (some .boolean), Cond.fieldLink RX1 26 "ThirdOfTheLast$Pot" "flavour" "LThirdOfTheLast$Flavour;", Cond.methodLink RX1 30 yX0_clear, Cond.instanceMethod yX0_clear, Cond.selects RX0 yX0_clear yX0_clear, Cond.code yX0_clear cX0_clear 2 none, Cond.methodLink RX1 57 yX1_cookIn, Cond.instanceMethod yX1_cookIn, Cond.selects RX1 yX1_cookIn yX1_cookIn, Cond.code yX1_cookIn cX1_cookIn 4 (some .boolean), Cond.methodLink RX1 68 yX1_has]
def wsX5_kitchen_r5 : List Cond := [Cond.instanceMethod yX1_has, Cond.selects RX1 yX1_has yX1_has, Cond.code yX1_has cX1_has 2 (some .boolean), Cond.static yX5_isNoKind, Cond.code yX5_isNoKind cX5_isNoKind 1 (some .boolean), Cond.methodLink RX1 74 yX3_cookIn, Cond.instanceMethod yX3_cookIn, Cond.selects RX3 yX3_cookIn yX3_cookIn, Cond.code yX3_cookIn cX3_cookIn 3 (some .boolean), Cond.fieldLink RX3 39 "ThirdOfTheLast$Flavour" "count" "I", Cond.methodLink RX3 35 yX0_hasRoom, Cond.instanceMethod yX0_hasRoom, Cond.selects RX0 yX0_hasRoom yX0_hasRoom, Cond.code yX0_hasRoom cX0_hasRoom 1 (some .boolean), Cond.methodLink RX3 43 yX0_takeIn, Cond.instanceMethod yX0_takeIn, Cond.selects RX0 yX0_takeIn yX0_takeIn, Cond.code yX0_takeIn cX0_takeIn 5 none, Cond.constantLong RX0 27 (9), Cond.static yX5_keepsOf, Cond.code yX5_keepsOf cX5_keepsOf 4 (some .int), Cond.static yX5_ownOf, Cond.code yX5_ownOf cX5_ownOf 6 (some .int), Cond.methodLink RX1 61 yX1_renew]
def wsX5_kitchen_r6 : List Cond := [Cond.instanceMethod yX1_renew, Cond.selects RX1 yX1_renew yX1_renew, Cond.code yX1_renew cX1_renew 2 (some .boolean), Cond.methodLink RX1 64 yX1_makeAlike, Cond.instanceMethod yX1_makeAlike, Cond.selects RX1 yX1_makeAlike yX1_makeAlike, Cond.code yX1_makeAlike cX1_makeAlike 3 (some .boolean), Cond.methodLink RX5 67 yX4_elementOr, Cond.methodLink RX5 71 yX1_digitsBehind]
def wsX5_kitchen : List Cond := .code yX5_kitchen cX5_kitchen 7 (some .int) :: ((wsX5_kitchen_r1 ++ (wsX5_kitchen_r2 ++ (wsX5_kitchen_r3 ++ (wsX5_kitchen_r4 ++ (wsX5_kitchen_r5 ++ wsX5_kitchen_r6))))) ++ wsX50 ++ wsX40 ++ wsX10 ++ wsX30 ++ wsX00)
def wsX5_pot : List Cond := .code yX5_pot cX5_pot 1 (some .int) :: ([.fieldLink RX5 10 "ThirdOfTheLast" "now" "LThirdOfTheLast$Kitchen;", .fieldLink RX5 78 "ThirdOfTheLast$Kitchen" "size" "I", .methodLink RX5 74 yX1_addPot, .instanceMethod yX1_addPot, .selects RX1 yX1_addPot yX1_addPot, .initialized RX1, .code yX1_addPot cX1_addPot 1 (some .boolean), .fieldLink RX1 18 "ThirdOfTheLast$Kitchen" "size" "I", .fieldLink RX1 11 "ThirdOfTheLast$Kitchen" "pots" "[LThirdOfTheLast$Pot;", .fieldLink RX1 26 "ThirdOfTheLast$Pot" "flavour" "LThirdOfTheLast$Flavour;", .methodLink RX1 30 yX0_clear, .instanceMethod yX0_clear, .selects RX0 yX0_clear yX0_clear, .initialized RX0, .code yX0_clear cX0_clear 2 none, .fieldLink RX0 9 "ThirdOfTheLast$Flavour" "above" "[J", .fieldLink RX0 15 "ThirdOfTheLast$Flavour" "below" "J", .fieldLink RX0 19 "ThirdOfTheLast$Flavour" "count" "I"] ++ wsX50 ++ wsX10 ++ wsX30 ++ wsX00)
def wsX5_dishRefusal : List Cond := .code yX5_dishRefusal cX5_dishRefusal 2 (some .int) :: ([.fieldLink RX5 42 "ThirdOfTheLast" "shelves" "[LThirdOfTheLast$Shelf;", .methodLink RX5 183 yX5_isNoShelf, .static yX5_isNoShelf, .initialized RX5, .code yX5_isNoShelf cX5_isNoShelf 1 (some .boolean), .methodLink RX5 300 yX4_holdsNothing, .instanceMethod yX4_holdsNothing, .selects RX4 yX4_holdsNothing yX4_holdsNothing, .initialized RX4, .code yX4_holdsNothing cX4_holdsNothing 1 (some .boolean), .fieldLink RX4 15 "ThirdOfTheLast$Shelf" "held" "I", .methodLink RX5 294 yX4_holdsRow, .instanceMethod yX4_holdsRow, .selects RX4 yX4_holdsRow yX4_holdsRow, .code yX4_holdsRow cX4_holdsRow 1 (some .boolean)] ++ wsX50 ++ wsX40)
def wsX5_cook_r1 : List Cond := [Cond.fieldLink RX5 10 "ThirdOfTheLast" "now" "LThirdOfTheLast$Kitchen;", Cond.fieldLink RX5 86 "ThirdOfTheLast$Kitchen" "pots" "[LThirdOfTheLast$Pot;", Cond.fieldLink RX5 42 "ThirdOfTheLast" "shelves" "[LThirdOfTheLast$Shelf;", Cond.fieldLink RX5 90 "ThirdOfTheLast$Shelf" "kind" "I", Cond.fieldLink RX5 93 "ThirdOfTheLast$Shelf" "figure" "I", Cond.fieldLink RX5 102 "ThirdOfTheLast$Pot" "flavour" "LThirdOfTheLast$Flavour;", Cond.fieldLink RX5 105 "ThirdOfTheLast$Flavour" "count" "I", Cond.methodLink RX5 79 yX1_has, Cond.instanceMethod yX1_has, Cond.selects RX1 yX1_has yX1_has, Cond.initialized RX1, Cond.code yX1_has cX1_has 2 (some .boolean), Cond.fieldLink RX1 18 "ThirdOfTheLast$Kitchen" "size" "I", Cond.methodLink RX5 83 yX5_dishRefusal, Cond.instanceMethod yX5_dishRefusal, Cond.selects RX5 yX5_dishRefusal yX5_dishRefusal, Cond.initialized RX5, Cond.code yX5_dishRefusal cX5_dishRefusal 2 (some .int), Cond.methodLink RX5 183 yX5_isNoShelf, Cond.static yX5_isNoShelf, Cond.code yX5_isNoShelf cX5_isNoShelf 1 (some .boolean), Cond.methodLink RX5 300 yX4_holdsNothing, Cond.instanceMethod yX4_holdsNothing, Cond.selects RX4 yX4_holdsNothing yX4_holdsNothing]
def wsX5_cook_r2 : List Cond := [Cond.initialized RX4, Cond.code yX4_holdsNothing cX4_holdsNothing 1 (some .boolean), Cond.fieldLink RX4 15 "ThirdOfTheLast$Shelf" "held" "I", Cond.methodLink RX5 294 yX4_holdsRow, Cond.instanceMethod yX4_holdsRow, Cond.selects RX4 yX4_holdsRow yX4_holdsRow, Cond.code yX4_holdsRow cX4_holdsRow 1 (some .boolean), Cond.methodLink RX5 96 yX3_cookIn, Cond.instanceMethod yX3_cookIn, Cond.selects RX3 yX3_cookIn yX3_cookIn, Cond.initialized RX3, Cond.code yX3_cookIn cX3_cookIn 3 (some .boolean), Cond.fieldLink RX3 12 "ThirdOfTheLast$Pot" "flavour" "LThirdOfTheLast$Flavour;", Cond.fieldLink RX3 18 "ThirdOfTheLast$Pot" "kinds" "[I", Cond.fieldLink RX3 39 "ThirdOfTheLast$Flavour" "count" "I", Cond.fieldLink RX3 22 "ThirdOfTheLast$Pot" "figures" "[I", Cond.methodLink RX3 35 yX0_hasRoom, Cond.instanceMethod yX0_hasRoom, Cond.selects RX0 yX0_hasRoom yX0_hasRoom, Cond.initialized RX0, Cond.code yX0_hasRoom cX0_hasRoom 1 (some .boolean), Cond.fieldLink RX0 19 "ThirdOfTheLast$Flavour" "count" "I", Cond.methodLink RX3 43 yX0_takeIn, Cond.instanceMethod yX0_takeIn]
def wsX5_cook_r3 : List Cond := [Cond.selects RX0 yX0_takeIn yX0_takeIn, Cond.code yX0_takeIn cX0_takeIn 5 none, Cond.fieldLink RX0 15 "ThirdOfTheLast$Flavour" "below" "J", Cond.constantLong RX0 27 (9), Cond.fieldLink RX0 9 "ThirdOfTheLast$Flavour" "above" "[J", Cond.static yX5_keepsOf, Cond.code yX5_keepsOf cX5_keepsOf 4 (some .int), Cond.static yX5_ownOf, Cond.code yX5_ownOf cX5_ownOf 6 (some .int)]
def wsX5_cook : List Cond := .code yX5_cook cX5_cook 5 (some .int) :: ((wsX5_cook_r1 ++ (wsX5_cook_r2 ++ wsX5_cook_r3)) ++ wsX50 ++ wsX10 ++ wsX40 ++ wsX30 ++ wsX00)
def wsX5_isNoHalf : List Cond := .code yX5_isNoHalf cX5_isNoHalf 1 (some .boolean) :: ([])
def wsX5_dish_r1 : List Cond := [Cond.fieldLink RX5 10 "ThirdOfTheLast" "now" "LThirdOfTheLast$Kitchen;", Cond.fieldLink RX5 86 "ThirdOfTheLast$Kitchen" "pots" "[LThirdOfTheLast$Pot;", Cond.methodLink RX5 79 yX1_has, Cond.instanceMethod yX1_has, Cond.selects RX1 yX1_has yX1_has, Cond.initialized RX1, Cond.code yX1_has cX1_has 2 (some .boolean), Cond.fieldLink RX1 18 "ThirdOfTheLast$Kitchen" "size" "I", Cond.methodLink RX5 108 yX5_isNoHalf, Cond.static yX5_isNoHalf, Cond.initialized RX5, Cond.code yX5_isNoHalf cX5_isNoHalf 1 (some .boolean), Cond.methodLink RX5 111 yX3_hasDish, Cond.instanceMethod yX3_hasDish, Cond.selects RX3 yX3_hasDish yX3_hasDish, Cond.initialized RX3, Cond.code yX3_hasDish cX3_hasDish 2 (some .boolean), Cond.fieldLink RX3 12 "ThirdOfTheLast$Pot" "flavour" "LThirdOfTheLast$Flavour;", Cond.fieldLink RX3 39 "ThirdOfTheLast$Flavour" "count" "I", Cond.methodLink RX5 114 yX3_kindOf, Cond.instanceMethod yX3_kindOf, Cond.selects RX3 yX3_kindOf yX3_kindOf, Cond.code yX3_kindOf cX3_kindOf 2 (some .int), Cond.fieldLink RX3 18 "ThirdOfTheLast$Pot" "kinds" "[I"]
def wsX5_dish_r2 : List Cond := [Cond.methodLink RX5 117 yX3_figureOf, Cond.instanceMethod yX3_figureOf, Cond.selects RX3 yX3_figureOf yX3_figureOf, Cond.code yX3_figureOf cX3_figureOf 2 (some .int), Cond.fieldLink RX3 22 "ThirdOfTheLast$Pot" "figures" "[I"]
def wsX5_dish : List Cond := .code yX5_dish cX5_dish 5 (some .int) :: ((wsX5_dish_r1 ++ wsX5_dish_r2) ++ wsX50 ++ wsX10 ++ wsX30 ++ wsX00)
def wsX5_dishes : List Cond := .code yX5_dishes cX5_dishes 2 (some .int) :: ([.fieldLink RX5 10 "ThirdOfTheLast" "now" "LThirdOfTheLast$Kitchen;", .fieldLink RX5 86 "ThirdOfTheLast$Kitchen" "pots" "[LThirdOfTheLast$Pot;", .fieldLink RX5 102 "ThirdOfTheLast$Pot" "flavour" "LThirdOfTheLast$Flavour;", .fieldLink RX5 105 "ThirdOfTheLast$Flavour" "count" "I", .methodLink RX5 79 yX1_has, .instanceMethod yX1_has, .selects RX1 yX1_has yX1_has, .initialized RX1, .code yX1_has cX1_has 2 (some .boolean), .fieldLink RX1 18 "ThirdOfTheLast$Kitchen" "size" "I"] ++ wsX50 ++ wsX10 ++ wsX30 ++ wsX00)
def wsX5_isNoTaste : List Cond := .code yX5_isNoTaste cX5_isNoTaste 1 (some .boolean) :: ([])
def wsX5_inLeastTerms : List Cond := .code yX5_inLeastTerms cX5_inLeastTerms 10 (some .long) :: ([.constantLong RX5 324 (3)])
def wsX5_taste : List Cond := .code yX5_taste cX5_taste 5 (some .long) :: ([.fieldLink RX5 10 "ThirdOfTheLast" "now" "LThirdOfTheLast$Kitchen;", .constantLong RX5 123 (-1000000001), .fieldLink RX5 86 "ThirdOfTheLast$Kitchen" "pots" "[LThirdOfTheLast$Pot;", .fieldLink RX5 102 "ThirdOfTheLast$Pot" "flavour" "LThirdOfTheLast$Flavour;", .fieldLink RX5 125 "ThirdOfTheLast$Flavour" "above" "[J", .fieldLink RX5 129 "ThirdOfTheLast$Flavour" "below" "J", .methodLink RX5 79 yX1_has, .instanceMethod yX1_has, .selects RX1 yX1_has yX1_has, .initialized RX1, .code yX1_has cX1_has 2 (some .boolean), .fieldLink RX1 18 "ThirdOfTheLast$Kitchen" "size" "I", .methodLink RX5 120 yX5_isNoTaste, .static yX5_isNoTaste, .initialized RX5, .code yX5_isNoTaste cX5_isNoTaste 1 (some .boolean), .methodLink RX5 108 yX5_isNoHalf, .static yX5_isNoHalf, .code yX5_isNoHalf cX5_isNoHalf 1 (some .boolean), .methodLink RX5 133 yX5_inLeastTerms, .static yX5_inLeastTerms, .code yX5_inLeastTerms cX5_inLeastTerms 10 (some .long), .constantLong RX5 324 (3)] ++ wsX50 ++ wsX10 ++ wsX30 ++ wsX00)
def wsX5_all_r1 : List Cond := [Cond.fieldLink RX5 10 "ThirdOfTheLast" "now" "LThirdOfTheLast$Kitchen;", Cond.constantLong RX5 123 (-1000000001), Cond.fieldLink RX5 86 "ThirdOfTheLast$Kitchen" "pots" "[LThirdOfTheLast$Pot;", Cond.fieldLink RX5 102 "ThirdOfTheLast$Pot" "flavour" "LThirdOfTheLast$Flavour;", Cond.fieldLink RX5 129 "ThirdOfTheLast$Flavour" "below" "J", Cond.methodLink RX5 79 yX1_has, Cond.instanceMethod yX1_has, Cond.selects RX1 yX1_has yX1_has, Cond.initialized RX1, Cond.code yX1_has cX1_has 2 (some .boolean), Cond.fieldLink RX1 18 "ThirdOfTheLast$Kitchen" "size" "I", Cond.methodLink RX5 108 yX5_isNoHalf, Cond.static yX5_isNoHalf, Cond.initialized RX5, Cond.code yX5_isNoHalf cX5_isNoHalf 1 (some .boolean), Cond.methodLink RX5 137 yX0_totalAbove, Cond.instanceMethod yX0_totalAbove, Cond.selects RX0 yX0_totalAbove yX0_totalAbove, Cond.initialized RX0, Cond.code yX0_totalAbove cX0_totalAbove 4 (some .long), Cond.fieldLink RX0 9 "ThirdOfTheLast$Flavour" "above" "[J", Cond.methodLink RX5 133 yX5_inLeastTerms, Cond.static yX5_inLeastTerms, Cond.code yX5_inLeastTerms cX5_inLeastTerms 10 (some .long)]
def wsX5_all_r2 : List Cond := [Cond.constantLong RX5 324 (3)]
def wsX5_all : List Cond := .code yX5_all cX5_all 4 (some .long) :: ((wsX5_all_r1 ++ wsX5_all_r2) ++ wsX50 ++ wsX10 ++ wsX30 ++ wsX00)
def wsX5_portion : List Cond := .code yX5_portion cX5_portion 3 (some .int) :: ([.fieldLink RX5 10 "ThirdOfTheLast" "now" "LThirdOfTheLast$Kitchen;", .fieldLink RX5 86 "ThirdOfTheLast$Kitchen" "pots" "[LThirdOfTheLast$Pot;", .fieldLink RX5 102 "ThirdOfTheLast$Pot" "flavour" "LThirdOfTheLast$Flavour;", .methodLink RX5 79 yX1_has, .instanceMethod yX1_has, .selects RX1 yX1_has yX1_has, .initialized RX1, .code yX1_has cX1_has 2 (some .boolean), .fieldLink RX1 18 "ThirdOfTheLast$Kitchen" "size" "I", .methodLink RX5 120 yX5_isNoTaste, .static yX5_isNoTaste, .initialized RX5, .code yX5_isNoTaste cX5_isNoTaste 1 (some .boolean), .methodLink RX5 141 yX0_portionOf, .instanceMethod yX0_portionOf, .selects RX0 yX0_portionOf yX0_portionOf, .initialized RX0, .code yX0_portionOf cX0_portionOf 4 (some .int), .constantLong RX0 45 (100), .fieldLink RX0 9 "ThirdOfTheLast$Flavour" "above" "[J", .methodLink RX0 41 yX0_totalAbove, .instanceMethod yX0_totalAbove, .selects RX0 yX0_totalAbove yX0_totalAbove, .code yX0_totalAbove cX0_totalAbove 4 (some .long)] ++ wsX50 ++ wsX10 ++ wsX30 ++ wsX00)
def wsX5_isNoPercent : List Cond := .code yX5_isNoPercent cX5_isNoPercent 1 (some .boolean) :: ([])
def wsX5_over_r1 : List Cond := [Cond.fieldLink RX5 10 "ThirdOfTheLast" "now" "LThirdOfTheLast$Kitchen;", Cond.fieldLink RX5 86 "ThirdOfTheLast$Kitchen" "pots" "[LThirdOfTheLast$Pot;", Cond.fieldLink RX5 102 "ThirdOfTheLast$Pot" "flavour" "LThirdOfTheLast$Flavour;", Cond.methodLink RX5 79 yX1_has, Cond.instanceMethod yX1_has, Cond.selects RX1 yX1_has yX1_has, Cond.initialized RX1, Cond.code yX1_has cX1_has 2 (some .boolean), Cond.fieldLink RX1 18 "ThirdOfTheLast$Kitchen" "size" "I", Cond.methodLink RX5 120 yX5_isNoTaste, Cond.static yX5_isNoTaste, Cond.initialized RX5, Cond.code yX5_isNoTaste cX5_isNoTaste 1 (some .boolean), Cond.methodLink RX5 144 yX5_isNoPercent, Cond.static yX5_isNoPercent, Cond.code yX5_isNoPercent cX5_isNoPercent 1 (some .boolean), Cond.methodLink RX5 147 yX0_isOver, Cond.instanceMethod yX0_isOver, Cond.selects RX0 yX0_isOver yX0_isOver, Cond.initialized RX0, Cond.code yX0_isOver cX0_isOver 3 (some .boolean), Cond.constantLong RX0 45 (100), Cond.fieldLink RX0 9 "ThirdOfTheLast$Flavour" "above" "[J", Cond.methodLink RX0 41 yX0_totalAbove]
def wsX5_over_r2 : List Cond := [Cond.instanceMethod yX0_totalAbove, Cond.selects RX0 yX0_totalAbove yX0_totalAbove, Cond.code yX0_totalAbove cX0_totalAbove 4 (some .long)]
def wsX5_over : List Cond := .code yX5_over cX5_over 4 (some .int) :: ((wsX5_over_r1 ++ wsX5_over_r2) ++ wsX50 ++ wsX10 ++ wsX30 ++ wsX00)
def wsX5_powerOfNine : List Cond := .code yX5_powerOfNine cX5_powerOfNine 4 (some .long) :: ([.constantLong RX5 249 (9)])
def wsX5_part_r1 : List Cond := [Cond.fieldLink RX5 10 "ThirdOfTheLast" "now" "LThirdOfTheLast$Kitchen;", Cond.fieldLink RX5 86 "ThirdOfTheLast$Kitchen" "pots" "[LThirdOfTheLast$Pot;", Cond.constantLong RX5 123 (-1000000001), Cond.methodLink RX5 79 yX1_has, Cond.instanceMethod yX1_has, Cond.selects RX1 yX1_has yX1_has, Cond.initialized RX1, Cond.code yX1_has cX1_has 2 (some .boolean), Cond.fieldLink RX1 18 "ThirdOfTheLast$Kitchen" "size" "I", Cond.methodLink RX5 108 yX5_isNoHalf, Cond.static yX5_isNoHalf, Cond.initialized RX5, Cond.code yX5_isNoHalf cX5_isNoHalf 1 (some .boolean), Cond.methodLink RX5 111 yX3_hasDish, Cond.instanceMethod yX3_hasDish, Cond.selects RX3 yX3_hasDish yX3_hasDish, Cond.initialized RX3, Cond.code yX3_hasDish cX3_hasDish 2 (some .boolean), Cond.fieldLink RX3 12 "ThirdOfTheLast$Pot" "flavour" "LThirdOfTheLast$Flavour;", Cond.fieldLink RX3 39 "ThirdOfTheLast$Flavour" "count" "I", Cond.methodLink RX5 150 yX3_leftAbove, Cond.instanceMethod yX3_leftAbove, Cond.selects RX3 yX3_leftAbove yX3_leftAbove, Cond.code yX3_leftAbove cX3_leftAbove 5 (some .long)]
def wsX5_part_r2 : List Cond := [Cond.methodLink RX3 47 yX3_kindOf, Cond.instanceMethod yX3_kindOf, Cond.selects RX3 yX3_kindOf yX3_kindOf, Cond.code yX3_kindOf cX3_kindOf 2 (some .int), Cond.fieldLink RX3 18 "ThirdOfTheLast$Pot" "kinds" "[I", Cond.static yX5_keepsOf, Cond.code yX5_keepsOf cX5_keepsOf 4 (some .int), Cond.methodLink RX5 154 yX5_powerOfNine, Cond.static yX5_powerOfNine, Cond.code yX5_powerOfNine cX5_powerOfNine 4 (some .long), Cond.constantLong RX5 249 (9), Cond.methodLink RX5 133 yX5_inLeastTerms, Cond.static yX5_inLeastTerms, Cond.code yX5_inLeastTerms cX5_inLeastTerms 10 (some .long), Cond.constantLong RX5 324 (3)]
def wsX5_part : List Cond := .code yX5_part cX5_part 4 (some .long) :: ((wsX5_part_r1 ++ wsX5_part_r2) ++ wsX50 ++ wsX10 ++ wsX30 ++ wsX00)
def wsX5_isNoHundredth : List Cond := .code yX5_isNoHundredth cX5_isNoHundredth 1 (some .boolean) :: ([])
def wsX5_back_r1 : List Cond := [Cond.fieldLink RX5 10 "ThirdOfTheLast" "now" "LThirdOfTheLast$Kitchen;", Cond.fieldLink RX5 86 "ThirdOfTheLast$Kitchen" "pots" "[LThirdOfTheLast$Pot;", Cond.fieldLink RX5 102 "ThirdOfTheLast$Pot" "flavour" "LThirdOfTheLast$Flavour;", Cond.fieldLink RX5 105 "ThirdOfTheLast$Flavour" "count" "I", Cond.constantLong RX5 160 (100), Cond.methodLink RX5 79 yX1_has, Cond.instanceMethod yX1_has, Cond.selects RX1 yX1_has yX1_has, Cond.initialized RX1, Cond.code yX1_has cX1_has 2 (some .boolean), Cond.fieldLink RX1 18 "ThirdOfTheLast$Kitchen" "size" "I", Cond.methodLink RX5 157 yX5_isNoHundredth, Cond.static yX5_isNoHundredth, Cond.initialized RX5, Cond.code yX5_isNoHundredth cX5_isNoHundredth 1 (some .boolean), Cond.methodLink RX5 150 yX3_leftAbove, Cond.instanceMethod yX3_leftAbove, Cond.selects RX3 yX3_leftAbove yX3_leftAbove, Cond.initialized RX3, Cond.code yX3_leftAbove cX3_leftAbove 5 (some .long), Cond.methodLink RX3 47 yX3_kindOf, Cond.instanceMethod yX3_kindOf, Cond.selects RX3 yX3_kindOf yX3_kindOf, Cond.code yX3_kindOf cX3_kindOf 2 (some .int)]
def wsX5_back_r2 : List Cond := [Cond.fieldLink RX3 18 "ThirdOfTheLast$Pot" "kinds" "[I", Cond.fieldLink RX3 12 "ThirdOfTheLast$Pot" "flavour" "LThirdOfTheLast$Flavour;", Cond.fieldLink RX3 39 "ThirdOfTheLast$Flavour" "count" "I", Cond.static yX5_keepsOf, Cond.code yX5_keepsOf cX5_keepsOf 4 (some .int), Cond.methodLink RX5 154 yX5_powerOfNine, Cond.static yX5_powerOfNine, Cond.code yX5_powerOfNine cX5_powerOfNine 4 (some .long), Cond.constantLong RX5 249 (9)]
def wsX5_back : List Cond := .code yX5_back cX5_back 5 (some .int) :: ((wsX5_back_r1 ++ wsX5_back_r2) ++ wsX50 ++ wsX10 ++ wsX30 ++ wsX00)
def wsX5_strongest : List Cond := .code yX5_strongest cX5_strongest 2 (some .int) :: ([.fieldLink RX5 10 "ThirdOfTheLast" "now" "LThirdOfTheLast$Kitchen;", .fieldLink RX5 86 "ThirdOfTheLast$Kitchen" "pots" "[LThirdOfTheLast$Pot;", .fieldLink RX5 102 "ThirdOfTheLast$Pot" "flavour" "LThirdOfTheLast$Flavour;", .methodLink RX5 79 yX1_has, .instanceMethod yX1_has, .selects RX1 yX1_has yX1_has, .initialized RX1, .code yX1_has cX1_has 2 (some .boolean), .fieldLink RX1 18 "ThirdOfTheLast$Kitchen" "size" "I", .methodLink RX5 162 yX0_mostTaste, .instanceMethod yX0_mostTaste, .selects RX0 yX0_mostTaste yX0_mostTaste, .initialized RX0, .code yX0_mostTaste cX0_mostTaste 3 (some .int), .fieldLink RX0 9 "ThirdOfTheLast$Flavour" "above" "[J"] ++ wsX50 ++ wsX10 ++ wsX30 ++ wsX00)
def wsX5_isNoBans : List Cond := .code yX5_isNoBans cX5_isNoBans 1 (some .boolean) :: ([])
def wsX5_harms_r1 : List Cond := [Cond.fieldLink RX5 10 "ThirdOfTheLast" "now" "LThirdOfTheLast$Kitchen;", Cond.fieldLink RX5 86 "ThirdOfTheLast$Kitchen" "pots" "[LThirdOfTheLast$Pot;", Cond.fieldLink RX5 102 "ThirdOfTheLast$Pot" "flavour" "LThirdOfTheLast$Flavour;", Cond.methodLink RX5 79 yX1_has, Cond.instanceMethod yX1_has, Cond.selects RX1 yX1_has yX1_has, Cond.initialized RX1, Cond.code yX1_has cX1_has 2 (some .boolean), Cond.fieldLink RX1 18 "ThirdOfTheLast$Kitchen" "size" "I", Cond.methodLink RX5 166 yX5_isNoBans, Cond.static yX5_isNoBans, Cond.initialized RX5, Cond.code yX5_isNoBans cX5_isNoBans 1 (some .boolean), Cond.methodLink RX5 144 yX5_isNoPercent, Cond.static yX5_isNoPercent, Cond.code yX5_isNoPercent cX5_isNoPercent 1 (some .boolean), Cond.methodLink RX5 169 yX0_isHarmful, Cond.instanceMethod yX0_isHarmful, Cond.selects RX0 yX0_isHarmful yX0_isHarmful, Cond.initialized RX0, Cond.code yX0_isHarmful cX0_isHarmful 6 (some .boolean), Cond.constantLong RX0 45 (100), Cond.fieldLink RX0 9 "ThirdOfTheLast$Flavour" "above" "[J", Cond.methodLink RX0 41 yX0_totalAbove]
def wsX5_harms_r2 : List Cond := [Cond.instanceMethod yX0_totalAbove, Cond.selects RX0 yX0_totalAbove yX0_totalAbove, Cond.code yX0_totalAbove cX0_totalAbove 4 (some .long)]
def wsX5_harms : List Cond := .code yX5_harms cX5_harms 4 (some .int) :: ((wsX5_harms_r1 ++ wsX5_harms_r2) ++ wsX50 ++ wsX10 ++ wsX30 ++ wsX00)
def wsX5_isPlan_r1 : List Cond := [Cond.fieldLink RX5 59 "ThirdOfTheLast$Shelf" "size" "I", Cond.fieldLink RX5 10 "ThirdOfTheLast" "now" "LThirdOfTheLast$Kitchen;", Cond.methodLink RX5 67 yX4_elementOr, Cond.instanceMethod yX4_elementOr, Cond.selects RX4 yX4_elementOr yX4_elementOr, Cond.initialized RX4, Cond.code yX4_elementOr cX4_elementOr 3 (some .int), Cond.fieldLink RX4 9 "ThirdOfTheLast$Shelf" "elements" "[I", Cond.methodLink RX4 31 yX4_hasElement, Cond.instanceMethod yX4_hasElement, Cond.selects RX4 yX4_hasElement yX4_hasElement, Cond.code yX4_hasElement cX4_hasElement 2 (some .boolean), Cond.fieldLink RX4 28 "ThirdOfTheLast$Shelf" "size" "I", Cond.methodLink RX5 79 yX1_has, Cond.instanceMethod yX1_has, Cond.selects RX1 yX1_has yX1_has, Cond.initialized RX1, Cond.code yX1_has cX1_has 2 (some .boolean), Cond.fieldLink RX1 18 "ThirdOfTheLast$Kitchen" "size" "I", Cond.methodLink RX5 318 yX4_hasDishAt, Cond.instanceMethod yX4_hasDishAt, Cond.selects RX4 yX4_hasDishAt yX4_hasDishAt, Cond.code yX4_hasDishAt cX4_hasDishAt 2 (some .boolean), Cond.methodLink RX4 35 yX4_elementOr]
def wsX5_isPlan_r2 : List Cond := [Cond.static yX5_isNoKind, Cond.initialized RX5, Cond.code yX5_isNoKind cX5_isNoKind 1 (some .boolean), Cond.static yX5_isNoFigure, Cond.code yX5_isNoFigure cX5_isNoFigure 1 (some .boolean)]
def wsX5_isPlan : List Cond := .code yX5_isPlan cX5_isPlan 3 (some .boolean) :: ((wsX5_isPlan_r1 ++ wsX5_isPlan_r2) ++ wsX40 ++ wsX50 ++ wsX10)
def wsX5_first_r1 : List Cond := [Cond.fieldLink RX5 42 "ThirdOfTheLast" "shelves" "[LThirdOfTheLast$Shelf;", Cond.fieldLink RX5 25 "ThirdOfTheLast" "mind" "LThirdOfTheLast$Mind;", Cond.fieldLink RX5 10 "ThirdOfTheLast" "now" "LThirdOfTheLast$Kitchen;", Cond.methodLink RX5 166 yX5_isNoBans, Cond.static yX5_isNoBans, Cond.initialized RX5, Cond.code yX5_isNoBans cX5_isNoBans 1 (some .boolean), Cond.methodLink RX5 144 yX5_isNoPercent, Cond.static yX5_isNoPercent, Cond.code yX5_isNoPercent cX5_isNoPercent 1 (some .boolean), Cond.methodLink RX5 47 yX5_bytesRefusal, Cond.instanceMethod yX5_bytesRefusal, Cond.selects RX5 yX5_bytesRefusal yX5_bytesRefusal, Cond.code yX5_bytesRefusal cX5_bytesRefusal 3 (some .int), Cond.fieldLink RX5 303 "ThirdOfTheLast$Shelf" "sort" "I", Cond.methodLink RX5 257 yX5_rowRefusal, Cond.instanceMethod yX5_rowRefusal, Cond.selects RX5 yX5_rowRefusal yX5_rowRefusal, Cond.code yX5_rowRefusal cX5_rowRefusal 2 (some .int), Cond.methodLink RX5 183 yX5_isNoShelf, Cond.static yX5_isNoShelf, Cond.code yX5_isNoShelf cX5_isNoShelf 1 (some .boolean), Cond.methodLink RX5 300 yX4_holdsNothing, Cond.instanceMethod yX4_holdsNothing]
def wsX5_first_r2 : List Cond := [Cond.selects RX4 yX4_holdsNothing yX4_holdsNothing, Cond.initialized RX4, Cond.code yX4_holdsNothing cX4_holdsNothing 1 (some .boolean), Cond.fieldLink RX4 15 "ThirdOfTheLast$Shelf" "held" "I", Cond.methodLink RX5 294 yX4_holdsRow, Cond.instanceMethod yX4_holdsRow, Cond.selects RX4 yX4_holdsRow yX4_holdsRow, Cond.code yX4_holdsRow cX4_holdsRow 1 (some .boolean), Cond.methodLink RX5 172 yX5_isPlan, Cond.instanceMethod yX5_isPlan, Cond.selects RX5 yX5_isPlan yX5_isPlan, Cond.code yX5_isPlan cX5_isPlan 3 (some .boolean), Cond.fieldLink RX5 59 "ThirdOfTheLast$Shelf" "size" "I", Cond.methodLink RX5 67 yX4_elementOr, Cond.instanceMethod yX4_elementOr, Cond.selects RX4 yX4_elementOr yX4_elementOr, Cond.code yX4_elementOr cX4_elementOr 3 (some .int), Cond.fieldLink RX4 9 "ThirdOfTheLast$Shelf" "elements" "[I", Cond.methodLink RX4 31 yX4_hasElement, Cond.instanceMethod yX4_hasElement, Cond.selects RX4 yX4_hasElement yX4_hasElement, Cond.code yX4_hasElement cX4_hasElement 2 (some .boolean), Cond.fieldLink RX4 28 "ThirdOfTheLast$Shelf" "size" "I", Cond.methodLink RX5 79 yX1_has]
def wsX5_first_r3 : List Cond := [Cond.instanceMethod yX1_has, Cond.selects RX1 yX1_has yX1_has, Cond.initialized RX1, Cond.code yX1_has cX1_has 2 (some .boolean), Cond.fieldLink RX1 18 "ThirdOfTheLast$Kitchen" "size" "I", Cond.methodLink RX5 318 yX4_hasDishAt, Cond.instanceMethod yX4_hasDishAt, Cond.selects RX4 yX4_hasDishAt yX4_hasDishAt, Cond.code yX4_hasDishAt cX4_hasDishAt 2 (some .boolean), Cond.methodLink RX4 35 yX4_elementOr, Cond.static yX5_isNoKind, Cond.code yX5_isNoKind cX5_isNoKind 1 (some .boolean), Cond.static yX5_isNoFigure, Cond.code yX5_isNoFigure cX5_isNoFigure 1 (some .boolean), Cond.methodLink RX5 176 yX2_thinkOf, Cond.instanceMethod yX2_thinkOf, Cond.selects RX2 yX2_thinkOf yX2_thinkOf, Cond.initialized RX2, Cond.code yX2_thinkOf cX2_thinkOf 5 none, Cond.fieldLink RX2 21 "ThirdOfTheLast$Kitchen" "size" "I", Cond.fieldLink RX2 27 "ThirdOfTheLast$Mind" "size" "I", Cond.fieldLink RX2 28 "ThirdOfTheLast$Mind" "bans" "I", Cond.fieldLink RX2 31 "ThirdOfTheLast$Mind" "p" "I", Cond.fieldLink RX2 11 "ThirdOfTheLast$Mind" "pots" "[LThirdOfTheLast$Flavour;"]
def wsX5_first_r4 : List Cond := [Cond.fieldLink RX2 34 "ThirdOfTheLast$Kitchen" "pots" "[LThirdOfTheLast$Pot;", Cond.fieldLink RX2 37 "ThirdOfTheLast$Pot" "flavour" "LThirdOfTheLast$Flavour;", Cond.methodLink RX2 43 yX0_become, Cond.instanceMethod yX0_become, Cond.selects RX0 yX0_become yX0_become, Cond.initialized RX0, Cond.code yX0_become cX0_become 3 none, Cond.fieldLink RX0 9 "ThirdOfTheLast$Flavour" "above" "[J", Cond.fieldLink RX0 15 "ThirdOfTheLast$Flavour" "below" "J", Cond.fieldLink RX0 19 "ThirdOfTheLast$Flavour" "count" "I", Cond.methodLink RX5 180 yX2_firstHarm, Cond.instanceMethod yX2_firstHarm, Cond.selects RX2 yX2_firstHarm yX2_firstHarm, Cond.code yX2_firstHarm cX2_firstHarm 4 (some .int), Cond.fieldLink RX2 47 "ThirdOfTheLast$Shelf" "size" "I", Cond.fieldLink RX2 50 "ThirdOfTheLast$Shelf" "elements" "[I", Cond.methodLink RX2 54 yX2_staysGood, Cond.instanceMethod yX2_staysGood, Cond.selects RX2 yX2_staysGood yX2_staysGood, Cond.code yX2_staysGood cX2_staysGood 4 (some .boolean), Cond.methodLink RX2 68 yX0_hasRoom, Cond.instanceMethod yX0_hasRoom, Cond.selects RX0 yX0_hasRoom yX0_hasRoom, Cond.code yX0_hasRoom cX0_hasRoom 1 (some .boolean)]
def wsX5_first_r5 : List Cond := [Cond.methodLink RX2 72 yX4_elementOr, Cond.methodLink RX2 76 yX0_takeIn, Cond.instanceMethod yX0_takeIn, Cond.selects RX0 yX0_takeIn yX0_takeIn, Cond.code yX0_takeIn cX0_takeIn 5 none, Cond.constantLong RX0 27 (9), Cond.static yX5_keepsOf, Cond.code yX5_keepsOf cX5_keepsOf 4 (some .int), Cond.static yX5_ownOf, Cond.code yX5_ownOf cX5_ownOf 6 (some .int), Cond.methodLink RX2 80 yX0_isHarmful, Cond.instanceMethod yX0_isHarmful, Cond.selects RX0 yX0_isHarmful yX0_isHarmful, Cond.code yX0_isHarmful cX0_isHarmful 6 (some .boolean), Cond.constantLong RX0 45 (100), Cond.methodLink RX0 41 yX0_totalAbove, Cond.instanceMethod yX0_totalAbove, Cond.selects RX0 yX0_totalAbove yX0_totalAbove, Cond.code yX0_totalAbove cX0_totalAbove 4 (some .long)]
def wsX5_first : List Cond := .code yX5_first cX5_first 6 (some .int) :: ((wsX5_first_r1 ++ (wsX5_first_r2 ++ (wsX5_first_r3 ++ (wsX5_first_r4 ++ wsX5_first_r5)))) ++ wsX50 ++ wsX40 ++ wsX10 ++ wsX20 ++ wsX30 ++ wsX00)
def wsX5_isRowOfDishes : List Cond := .code yX5_isRowOfDishes cX5_isRowOfDishes 2 (some .boolean) :: ([.fieldLink RX5 59 "ThirdOfTheLast$Shelf" "size" "I", .methodLink RX5 318 yX4_hasDishAt, .instanceMethod yX4_hasDishAt, .selects RX4 yX4_hasDishAt yX4_hasDishAt, .initialized RX4, .code yX4_hasDishAt cX4_hasDishAt 2 (some .boolean), .methodLink RX4 35 yX4_elementOr, .instanceMethod yX4_elementOr, .selects RX4 yX4_elementOr yX4_elementOr, .code yX4_elementOr cX4_elementOr 3 (some .int), .fieldLink RX4 9 "ThirdOfTheLast$Shelf" "elements" "[I", .methodLink RX4 31 yX4_hasElement, .instanceMethod yX4_hasElement, .selects RX4 yX4_hasElement yX4_hasElement, .code yX4_hasElement cX4_hasElement 2 (some .boolean), .fieldLink RX4 28 "ThirdOfTheLast$Shelf" "size" "I", .static yX5_isNoKind, .initialized RX5, .code yX5_isNoKind cX5_isNoKind 1 (some .boolean), .static yX5_isNoFigure, .code yX5_isNoFigure cX5_isNoFigure 1 (some .boolean)] ++ wsX40)
def wsX5_week_r1 : List Cond := [Cond.fieldLink RX5 10 "ThirdOfTheLast" "now" "LThirdOfTheLast$Kitchen;", Cond.fieldLink RX5 78 "ThirdOfTheLast$Kitchen" "size" "I", Cond.fieldLink RX5 42 "ThirdOfTheLast" "shelves" "[LThirdOfTheLast$Shelf;", Cond.fieldLink RX5 25 "ThirdOfTheLast" "mind" "LThirdOfTheLast$Mind;", Cond.fieldLink RX5 193 "ThirdOfTheLast$Mind" "ways" "I", Cond.fieldLink RX5 196 "ThirdOfTheLast$Mind" "firstWay" "I", Cond.methodLink RX5 183 yX5_isNoShelf, Cond.static yX5_isNoShelf, Cond.initialized RX5, Cond.code yX5_isNoShelf cX5_isNoShelf 1 (some .boolean), Cond.methodLink RX5 166 yX5_isNoBans, Cond.static yX5_isNoBans, Cond.code yX5_isNoBans cX5_isNoBans 1 (some .boolean), Cond.methodLink RX5 144 yX5_isNoPercent, Cond.static yX5_isNoPercent, Cond.code yX5_isNoPercent cX5_isNoPercent 1 (some .boolean), Cond.methodLink RX5 108 yX5_isNoHalf, Cond.static yX5_isNoHalf, Cond.code yX5_isNoHalf cX5_isNoHalf 1 (some .boolean), Cond.methodLink RX5 47 yX5_bytesRefusal, Cond.instanceMethod yX5_bytesRefusal, Cond.selects RX5 yX5_bytesRefusal yX5_bytesRefusal, Cond.code yX5_bytesRefusal cX5_bytesRefusal 3 (some .int), Cond.fieldLink RX5 303 "ThirdOfTheLast$Shelf" "sort" "I"]
def wsX5_week_r2 : List Cond := [Cond.methodLink RX5 257 yX5_rowRefusal, Cond.instanceMethod yX5_rowRefusal, Cond.selects RX5 yX5_rowRefusal yX5_rowRefusal, Cond.code yX5_rowRefusal cX5_rowRefusal 2 (some .int), Cond.methodLink RX5 300 yX4_holdsNothing, Cond.instanceMethod yX4_holdsNothing, Cond.selects RX4 yX4_holdsNothing yX4_holdsNothing, Cond.initialized RX4, Cond.code yX4_holdsNothing cX4_holdsNothing 1 (some .boolean), Cond.fieldLink RX4 15 "ThirdOfTheLast$Shelf" "held" "I", Cond.methodLink RX5 294 yX4_holdsRow, Cond.instanceMethod yX4_holdsRow, Cond.selects RX4 yX4_holdsRow yX4_holdsRow, Cond.code yX4_holdsRow cX4_holdsRow 1 (some .boolean), Cond.methodLink RX5 186 yX5_isRowOfDishes, Cond.static yX5_isRowOfDishes, Cond.code yX5_isRowOfDishes cX5_isRowOfDishes 2 (some .boolean), Cond.fieldLink RX5 59 "ThirdOfTheLast$Shelf" "size" "I", Cond.methodLink RX5 318 yX4_hasDishAt, Cond.instanceMethod yX4_hasDishAt, Cond.selects RX4 yX4_hasDishAt yX4_hasDishAt, Cond.code yX4_hasDishAt cX4_hasDishAt 2 (some .boolean), Cond.methodLink RX4 35 yX4_elementOr, Cond.instanceMethod yX4_elementOr]
def wsX5_week_r3 : List Cond := [Cond.selects RX4 yX4_elementOr yX4_elementOr, Cond.code yX4_elementOr cX4_elementOr 3 (some .int), Cond.fieldLink RX4 9 "ThirdOfTheLast$Shelf" "elements" "[I", Cond.methodLink RX4 31 yX4_hasElement, Cond.instanceMethod yX4_hasElement, Cond.selects RX4 yX4_hasElement yX4_hasElement, Cond.code yX4_hasElement cX4_hasElement 2 (some .boolean), Cond.fieldLink RX4 28 "ThirdOfTheLast$Shelf" "size" "I", Cond.static yX5_isNoKind, Cond.code yX5_isNoKind cX5_isNoKind 1 (some .boolean), Cond.static yX5_isNoFigure, Cond.code yX5_isNoFigure cX5_isNoFigure 1 (some .boolean), Cond.methodLink RX5 176 yX2_thinkOf, Cond.instanceMethod yX2_thinkOf, Cond.selects RX2 yX2_thinkOf yX2_thinkOf, Cond.initialized RX2, Cond.code yX2_thinkOf cX2_thinkOf 5 none, Cond.fieldLink RX2 21 "ThirdOfTheLast$Kitchen" "size" "I", Cond.fieldLink RX2 27 "ThirdOfTheLast$Mind" "size" "I", Cond.fieldLink RX2 28 "ThirdOfTheLast$Mind" "bans" "I", Cond.fieldLink RX2 31 "ThirdOfTheLast$Mind" "p" "I", Cond.fieldLink RX2 11 "ThirdOfTheLast$Mind" "pots" "[LThirdOfTheLast$Flavour;", Cond.fieldLink RX2 34 "ThirdOfTheLast$Kitchen" "pots" "[LThirdOfTheLast$Pot;", Cond.fieldLink RX2 37 "ThirdOfTheLast$Pot" "flavour" "LThirdOfTheLast$Flavour;"]
def wsX5_week_r4 : List Cond := [Cond.methodLink RX2 43 yX0_become, Cond.instanceMethod yX0_become, Cond.selects RX0 yX0_become yX0_become, Cond.initialized RX0, Cond.code yX0_become cX0_become 3 none, Cond.fieldLink RX0 9 "ThirdOfTheLast$Flavour" "above" "[J", Cond.fieldLink RX0 15 "ThirdOfTheLast$Flavour" "below" "J", Cond.fieldLink RX0 19 "ThirdOfTheLast$Flavour" "count" "I", Cond.methodLink RX5 189 yX2_countWays, Cond.instanceMethod yX2_countWays, Cond.selects RX2 yX2_countWays yX2_countWays, Cond.code yX2_countWays cX2_countWays 2 none, Cond.fieldLink RX2 58 "ThirdOfTheLast$Mind" "ways" "I", Cond.fieldLink RX2 61 "ThirdOfTheLast$Mind" "firstWay" "I", Cond.methodLink RX2 64 yX2_spread, Cond.static yX2_spread, Cond.code yX2_spread cX2_spread 7 none, Cond.fieldLink RX2 47 "ThirdOfTheLast$Shelf" "size" "I", Cond.fieldLink RX2 17 "ThirdOfTheLast$Mind" "before" "[LThirdOfTheLast$Flavour;", Cond.methodLink RX2 54 yX2_staysGood, Cond.instanceMethod yX2_staysGood, Cond.selects RX2 yX2_staysGood yX2_staysGood, Cond.code yX2_staysGood cX2_staysGood 4 (some .boolean), Cond.methodLink RX2 68 yX0_hasRoom]
def wsX5_week_r5 : List Cond := [Cond.instanceMethod yX0_hasRoom, Cond.selects RX0 yX0_hasRoom yX0_hasRoom, Cond.code yX0_hasRoom cX0_hasRoom 1 (some .boolean), Cond.methodLink RX2 72 yX4_elementOr, Cond.methodLink RX2 76 yX0_takeIn, Cond.instanceMethod yX0_takeIn, Cond.selects RX0 yX0_takeIn yX0_takeIn, Cond.code yX0_takeIn cX0_takeIn 5 none, Cond.constantLong RX0 27 (9), Cond.static yX5_keepsOf, Cond.code yX5_keepsOf cX5_keepsOf 4 (some .int), Cond.static yX5_ownOf, Cond.code yX5_ownOf cX5_ownOf 6 (some .int), Cond.methodLink RX2 80 yX0_isHarmful, Cond.instanceMethod yX0_isHarmful, Cond.selects RX0 yX0_isHarmful yX0_isHarmful, Cond.code yX0_isHarmful cX0_isHarmful 6 (some .boolean), Cond.constantLong RX0 45 (100), Cond.methodLink RX0 41 yX0_totalAbove, Cond.instanceMethod yX0_totalAbove, Cond.selects RX0 yX0_totalAbove yX0_totalAbove, Cond.code yX0_totalAbove cX0_totalAbove 4 (some .long)]
def wsX5_week : List Cond := .code yX5_week cX5_week 7 (some .int) :: ((wsX5_week_r1 ++ (wsX5_week_r2 ++ (wsX5_week_r3 ++ (wsX5_week_r4 ++ wsX5_week_r5)))) ++ wsX50 ++ wsX10 ++ wsX20 ++ wsX40 ++ wsX30 ++ wsX00)
def wsX5_codesOf : List Cond := .code yX5_codesOf cX5_codesOf 1 (some .int) :: ([])
def wsX5_firstBringing_r1 : List Cond := [Cond.fieldLink RX5 32 "ThirdOfTheLast" "trial" "LThirdOfTheLast$Flavour;", Cond.methodLink RX5 209 yX5_codesOf, Cond.static yX5_codesOf, Cond.initialized RX5, Cond.code yX5_codesOf cX5_codesOf 1 (some .int), Cond.methodLink RX5 212 yX0_become, Cond.instanceMethod yX0_become, Cond.selects RX0 yX0_become yX0_become, Cond.initialized RX0, Cond.code yX0_become cX0_become 3 none, Cond.fieldLink RX0 9 "ThirdOfTheLast$Flavour" "above" "[J", Cond.fieldLink RX0 15 "ThirdOfTheLast$Flavour" "below" "J", Cond.fieldLink RX0 19 "ThirdOfTheLast$Flavour" "count" "I", Cond.methodLink RX5 215 yX0_takeCode, Cond.instanceMethod yX0_takeCode, Cond.selects RX0 yX0_takeCode yX0_takeCode, Cond.code yX0_takeCode cX0_takeCode 5 none, Cond.static yX5_kindIn, Cond.code yX5_kindIn cX5_kindIn 2 (some .int), Cond.methodLink RX0 37 yX0_takeIn, Cond.instanceMethod yX0_takeIn, Cond.selects RX0 yX0_takeIn yX0_takeIn, Cond.code yX0_takeIn cX0_takeIn 5 none, Cond.constantLong RX0 27 (9)]
def wsX5_firstBringing_r2 : List Cond := [Cond.static yX5_keepsOf, Cond.code yX5_keepsOf cX5_keepsOf 4 (some .int), Cond.static yX5_ownOf, Cond.code yX5_ownOf cX5_ownOf 6 (some .int), Cond.methodLink RX5 147 yX0_isOver, Cond.instanceMethod yX0_isOver, Cond.selects RX0 yX0_isOver yX0_isOver, Cond.code yX0_isOver cX0_isOver 3 (some .boolean), Cond.constantLong RX0 45 (100), Cond.methodLink RX0 41 yX0_totalAbove, Cond.instanceMethod yX0_totalAbove, Cond.selects RX0 yX0_totalAbove yX0_totalAbove, Cond.code yX0_totalAbove cX0_totalAbove 4 (some .long)]
def wsX5_firstBringing : List Cond := .code yX5_firstBringing cX5_firstBringing 8 (some .int) :: ((wsX5_firstBringing_r1 ++ wsX5_firstBringing_r2) ++ wsX50 ++ wsX00)
def wsX5_firstKind : List Cond := .code yX5_firstKind cX5_firstKind 2 (some .int) :: ([.methodLink RX5 321 yX5_kindIn, .static yX5_kindIn, .initialized RX5, .code yX5_kindIn cX5_kindIn 2 (some .int)])
def wsX5_bring_r1 : List Cond := [Cond.fieldLink RX5 10 "ThirdOfTheLast" "now" "LThirdOfTheLast$Kitchen;", Cond.fieldLink RX5 86 "ThirdOfTheLast$Kitchen" "pots" "[LThirdOfTheLast$Pot;", Cond.fieldLink RX5 102 "ThirdOfTheLast$Pot" "flavour" "LThirdOfTheLast$Flavour;", Cond.fieldLink RX5 105 "ThirdOfTheLast$Flavour" "count" "I", Cond.methodLink RX5 79 yX1_has, Cond.instanceMethod yX1_has, Cond.selects RX1 yX1_has yX1_has, Cond.initialized RX1, Cond.code yX1_has cX1_has 2 (some .boolean), Cond.fieldLink RX1 18 "ThirdOfTheLast$Kitchen" "size" "I", Cond.methodLink RX5 120 yX5_isNoTaste, Cond.static yX5_isNoTaste, Cond.initialized RX5, Cond.code yX5_isNoTaste cX5_isNoTaste 1 (some .boolean), Cond.methodLink RX5 144 yX5_isNoPercent, Cond.static yX5_isNoPercent, Cond.code yX5_isNoPercent cX5_isNoPercent 1 (some .boolean), Cond.methodLink RX5 199 yX5_isNoFigure, Cond.static yX5_isNoFigure, Cond.code yX5_isNoFigure cX5_isNoFigure 1 (some .boolean), Cond.methodLink RX5 108 yX5_isNoHalf, Cond.static yX5_isNoHalf, Cond.code yX5_isNoHalf cX5_isNoHalf 1 (some .boolean), Cond.methodLink RX5 202 yX5_firstBringing]
def wsX5_bring_r2 : List Cond := [Cond.instanceMethod yX5_firstBringing, Cond.selects RX5 yX5_firstBringing yX5_firstBringing, Cond.code yX5_firstBringing cX5_firstBringing 8 (some .int), Cond.fieldLink RX5 32 "ThirdOfTheLast" "trial" "LThirdOfTheLast$Flavour;", Cond.methodLink RX5 209 yX5_codesOf, Cond.static yX5_codesOf, Cond.code yX5_codesOf cX5_codesOf 1 (some .int), Cond.methodLink RX5 212 yX0_become, Cond.instanceMethod yX0_become, Cond.selects RX0 yX0_become yX0_become, Cond.initialized RX0, Cond.code yX0_become cX0_become 3 none, Cond.fieldLink RX0 9 "ThirdOfTheLast$Flavour" "above" "[J", Cond.fieldLink RX0 15 "ThirdOfTheLast$Flavour" "below" "J", Cond.fieldLink RX0 19 "ThirdOfTheLast$Flavour" "count" "I", Cond.methodLink RX5 215 yX0_takeCode, Cond.instanceMethod yX0_takeCode, Cond.selects RX0 yX0_takeCode yX0_takeCode, Cond.code yX0_takeCode cX0_takeCode 5 none, Cond.static yX5_kindIn, Cond.code yX5_kindIn cX5_kindIn 2 (some .int), Cond.methodLink RX0 37 yX0_takeIn, Cond.instanceMethod yX0_takeIn, Cond.selects RX0 yX0_takeIn yX0_takeIn]
def wsX5_bring_r3 : List Cond := [Cond.code yX0_takeIn cX0_takeIn 5 none, Cond.constantLong RX0 27 (9), Cond.static yX5_keepsOf, Cond.code yX5_keepsOf cX5_keepsOf 4 (some .int), Cond.static yX5_ownOf, Cond.code yX5_ownOf cX5_ownOf 6 (some .int), Cond.methodLink RX5 147 yX0_isOver, Cond.instanceMethod yX0_isOver, Cond.selects RX0 yX0_isOver yX0_isOver, Cond.code yX0_isOver cX0_isOver 3 (some .boolean), Cond.constantLong RX0 45 (100), Cond.methodLink RX0 41 yX0_totalAbove, Cond.instanceMethod yX0_totalAbove, Cond.selects RX0 yX0_totalAbove yX0_totalAbove, Cond.code yX0_totalAbove cX0_totalAbove 4 (some .long), Cond.methodLink RX5 206 yX5_firstKind, Cond.static yX5_firstKind, Cond.code yX5_firstKind cX5_firstKind 2 (some .int), Cond.methodLink RX5 321 yX5_kindIn]
def wsX5_bring : List Cond := .code yX5_bring cX5_bring 9 (some .int) :: ((wsX5_bring_r1 ++ (wsX5_bring_r2 ++ wsX5_bring_r3)) ++ wsX50 ++ wsX10 ++ wsX30 ++ wsX00)
def wsX5_digitsOf : List Cond := .code yX5_digitsOf cX5_digitsOf 4 (some .int) :: ([.methodLink RX5 321 yX5_kindIn, .static yX5_kindIn, .initialized RX5, .code yX5_kindIn cX5_kindIn 2 (some .int)])
def wsX5_mayHave_r1 : List Cond := [Cond.fieldLink RX5 10 "ThirdOfTheLast" "now" "LThirdOfTheLast$Kitchen;", Cond.fieldLink RX5 86 "ThirdOfTheLast$Kitchen" "pots" "[LThirdOfTheLast$Pot;", Cond.fieldLink RX5 102 "ThirdOfTheLast$Pot" "flavour" "LThirdOfTheLast$Flavour;", Cond.fieldLink RX5 32 "ThirdOfTheLast" "trial" "LThirdOfTheLast$Flavour;", Cond.methodLink RX5 79 yX1_has, Cond.instanceMethod yX1_has, Cond.selects RX1 yX1_has yX1_has, Cond.initialized RX1, Cond.code yX1_has cX1_has 2 (some .boolean), Cond.fieldLink RX1 18 "ThirdOfTheLast$Kitchen" "size" "I", Cond.methodLink RX5 199 yX5_isNoFigure, Cond.static yX5_isNoFigure, Cond.initialized RX5, Cond.code yX5_isNoFigure cX5_isNoFigure 1 (some .boolean), Cond.methodLink RX5 108 yX5_isNoHalf, Cond.static yX5_isNoHalf, Cond.code yX5_isNoHalf cX5_isNoHalf 1 (some .boolean), Cond.methodLink RX5 209 yX5_codesOf, Cond.static yX5_codesOf, Cond.code yX5_codesOf cX5_codesOf 1 (some .int), Cond.methodLink RX5 219 yX0_clear, Cond.instanceMethod yX0_clear, Cond.selects RX0 yX0_clear yX0_clear, Cond.initialized RX0]
def wsX5_mayHave_r2 : List Cond := [Cond.code yX0_clear cX0_clear 2 none, Cond.fieldLink RX0 9 "ThirdOfTheLast$Flavour" "above" "[J", Cond.fieldLink RX0 15 "ThirdOfTheLast$Flavour" "below" "J", Cond.fieldLink RX0 19 "ThirdOfTheLast$Flavour" "count" "I", Cond.methodLink RX5 215 yX0_takeCode, Cond.instanceMethod yX0_takeCode, Cond.selects RX0 yX0_takeCode yX0_takeCode, Cond.code yX0_takeCode cX0_takeCode 5 none, Cond.static yX5_kindIn, Cond.code yX5_kindIn cX5_kindIn 2 (some .int), Cond.methodLink RX0 37 yX0_takeIn, Cond.instanceMethod yX0_takeIn, Cond.selects RX0 yX0_takeIn yX0_takeIn, Cond.code yX0_takeIn cX0_takeIn 5 none, Cond.constantLong RX0 27 (9), Cond.static yX5_keepsOf, Cond.code yX5_keepsOf cX5_keepsOf 4 (some .int), Cond.static yX5_ownOf, Cond.code yX5_ownOf cX5_ownOf 6 (some .int), Cond.methodLink RX5 222 yX0_isLike, Cond.instanceMethod yX0_isLike, Cond.selects RX0 yX0_isLike yX0_isLike, Cond.code yX0_isLike cX0_isLike 3 (some .boolean), Cond.methodLink RX5 226 yX5_digitsOf]
def wsX5_mayHave_r3 : List Cond := [Cond.static yX5_digitsOf, Cond.code yX5_digitsOf cX5_digitsOf 4 (some .int), Cond.methodLink RX5 321 yX5_kindIn]
def wsX5_mayHave : List Cond := .code yX5_mayHave cX5_mayHave 10 (some .int) :: ((wsX5_mayHave_r1 ++ (wsX5_mayHave_r2 ++ wsX5_mayHave_r3)) ++ wsX50 ++ wsX10 ++ wsX30 ++ wsX00)
def wsX5_mostAlike : List Cond := .code yX5_mostAlike cX5_mostAlike 6 (some .int) :: ([.fieldLink RX5 10 "ThirdOfTheLast" "now" "LThirdOfTheLast$Kitchen;", .fieldLink RX5 78 "ThirdOfTheLast$Kitchen" "size" "I", .fieldLink RX5 36 "ThirdOfTheLast" "portions" "[I", .fieldLink RX5 86 "ThirdOfTheLast$Kitchen" "pots" "[LThirdOfTheLast$Pot;", .fieldLink RX5 102 "ThirdOfTheLast$Pot" "flavour" "LThirdOfTheLast$Flavour;", .methodLink RX5 232 Lib.Math.max.name, .static Lib.Math.max.name, .initialized "java/lang/Math", .code Lib.Math.max.name Lib.Math.max.code 2 (some .int), .methodLink RX5 141 yX0_portionOf, .instanceMethod yX0_portionOf, .selects RX0 yX0_portionOf yX0_portionOf, .initialized RX0, .code yX0_portionOf cX0_portionOf 4 (some .int), .constantLong RX0 45 (100), .fieldLink RX0 9 "ThirdOfTheLast$Flavour" "above" "[J", .methodLink RX0 41 yX0_totalAbove, .instanceMethod yX0_totalAbove, .selects RX0 yX0_totalAbove yX0_totalAbove, .code yX0_totalAbove cX0_totalAbove 4 (some .long)] ++ wsX50 ++ wsX10 ++ wsX30 ++ wsX00)
def wsX5_tells_r1 : List Cond := [Cond.fieldLink RX5 10 "ThirdOfTheLast" "now" "LThirdOfTheLast$Kitchen;", Cond.fieldLink RX5 78 "ThirdOfTheLast$Kitchen" "size" "I", Cond.methodLink RX5 108 yX5_isNoHalf, Cond.static yX5_isNoHalf, Cond.initialized RX5, Cond.code yX5_isNoHalf cX5_isNoHalf 1 (some .boolean), Cond.methodLink RX5 229 yX5_mostAlike, Cond.instanceMethod yX5_mostAlike, Cond.selects RX5 yX5_mostAlike yX5_mostAlike, Cond.code yX5_mostAlike cX5_mostAlike 6 (some .int), Cond.fieldLink RX5 36 "ThirdOfTheLast" "portions" "[I", Cond.fieldLink RX5 86 "ThirdOfTheLast$Kitchen" "pots" "[LThirdOfTheLast$Pot;", Cond.fieldLink RX5 102 "ThirdOfTheLast$Pot" "flavour" "LThirdOfTheLast$Flavour;", Cond.methodLink RX5 232 Lib.Math.max.name, Cond.static Lib.Math.max.name, Cond.initialized "java/lang/Math", Cond.code Lib.Math.max.name Lib.Math.max.code 2 (some .int), Cond.methodLink RX5 141 yX0_portionOf, Cond.instanceMethod yX0_portionOf, Cond.selects RX0 yX0_portionOf yX0_portionOf, Cond.initialized RX0, Cond.code yX0_portionOf cX0_portionOf 4 (some .int), Cond.constantLong RX0 45 (100), Cond.fieldLink RX0 9 "ThirdOfTheLast$Flavour" "above" "[J"]
def wsX5_tells_r2 : List Cond := [Cond.methodLink RX0 41 yX0_totalAbove, Cond.instanceMethod yX0_totalAbove, Cond.selects RX0 yX0_totalAbove yX0_totalAbove, Cond.code yX0_totalAbove cX0_totalAbove 4 (some .long)]
def wsX5_tells : List Cond := .code yX5_tells cX5_tells 6 (some .int) :: ((wsX5_tells_r1 ++ wsX5_tells_r2) ++ wsX50 ++ wsX10 ++ wsX30 ++ wsX00)
def wsX5_lent_r1 : List Cond := [Cond.fieldLink RX5 10 "ThirdOfTheLast" "now" "LThirdOfTheLast$Kitchen;", Cond.constant RX5 237 (-1000000001), Cond.constant RX5 238 (-1000000000), Cond.fieldLink RX5 42 "ThirdOfTheLast" "shelves" "[LThirdOfTheLast$Shelf;", Cond.fieldLink RX5 90 "ThirdOfTheLast$Shelf" "kind" "I", Cond.fieldLink RX5 93 "ThirdOfTheLast$Shelf" "figure" "I", Cond.fieldLink RX5 32 "ThirdOfTheLast" "trial" "LThirdOfTheLast$Flavour;", Cond.fieldLink RX5 86 "ThirdOfTheLast$Kitchen" "pots" "[LThirdOfTheLast$Pot;", Cond.fieldLink RX5 102 "ThirdOfTheLast$Pot" "flavour" "LThirdOfTheLast$Flavour;", Cond.methodLink RX5 79 yX1_has, Cond.instanceMethod yX1_has, Cond.selects RX1 yX1_has yX1_has, Cond.initialized RX1, Cond.code yX1_has cX1_has 2 (some .boolean), Cond.fieldLink RX1 18 "ThirdOfTheLast$Kitchen" "size" "I", Cond.methodLink RX5 83 yX5_dishRefusal, Cond.instanceMethod yX5_dishRefusal, Cond.selects RX5 yX5_dishRefusal yX5_dishRefusal, Cond.initialized RX5, Cond.code yX5_dishRefusal cX5_dishRefusal 2 (some .int), Cond.methodLink RX5 183 yX5_isNoShelf, Cond.static yX5_isNoShelf, Cond.code yX5_isNoShelf cX5_isNoShelf 1 (some .boolean), Cond.methodLink RX5 300 yX4_holdsNothing]
def wsX5_lent_r2 : List Cond := [Cond.instanceMethod yX4_holdsNothing, Cond.selects RX4 yX4_holdsNothing yX4_holdsNothing, Cond.initialized RX4, Cond.code yX4_holdsNothing cX4_holdsNothing 1 (some .boolean), Cond.fieldLink RX4 15 "ThirdOfTheLast$Shelf" "held" "I", Cond.methodLink RX5 294 yX4_holdsRow, Cond.instanceMethod yX4_holdsRow, Cond.selects RX4 yX4_holdsRow yX4_holdsRow, Cond.code yX4_holdsRow cX4_holdsRow 1 (some .boolean), Cond.methodLink RX5 212 yX0_become, Cond.instanceMethod yX0_become, Cond.selects RX0 yX0_become yX0_become, Cond.initialized RX0, Cond.code yX0_become cX0_become 3 none, Cond.fieldLink RX0 9 "ThirdOfTheLast$Flavour" "above" "[J", Cond.fieldLink RX0 15 "ThirdOfTheLast$Flavour" "below" "J", Cond.fieldLink RX0 19 "ThirdOfTheLast$Flavour" "count" "I", Cond.methodLink RX5 239 yX0_takeIn, Cond.instanceMethod yX0_takeIn, Cond.selects RX0 yX0_takeIn yX0_takeIn, Cond.code yX0_takeIn cX0_takeIn 5 none, Cond.constantLong RX0 27 (9), Cond.static yX5_keepsOf, Cond.code yX5_keepsOf cX5_keepsOf 4 (some .int)]
def wsX5_lent_r3 : List Cond := [Cond.static yX5_ownOf, Cond.code yX5_ownOf cX5_ownOf 6 (some .int), Cond.methodLink RX5 141 yX0_portionOf, Cond.instanceMethod yX0_portionOf, Cond.selects RX0 yX0_portionOf yX0_portionOf, Cond.code yX0_portionOf cX0_portionOf 4 (some .int), Cond.constantLong RX0 45 (100), Cond.methodLink RX0 41 yX0_totalAbove, Cond.instanceMethod yX0_totalAbove, Cond.selects RX0 yX0_totalAbove yX0_totalAbove, Cond.code yX0_totalAbove cX0_totalAbove 4 (some .long), Cond.methodLink RX5 219 yX0_clear, Cond.instanceMethod yX0_clear, Cond.selects RX0 yX0_clear yX0_clear, Cond.code yX0_clear cX0_clear 2 none]
def wsX5_lent : List Cond := .code yX5_lent cX5_lent 8 (some .int) :: ((wsX5_lent_r1 ++ (wsX5_lent_r2 ++ wsX5_lent_r3)) ++ wsX50 ++ wsX40 ++ wsX10 ++ wsX30 ++ wsX00)
def wsX5_gone : List Cond := .code yX5_gone cX5_gone 9 (some .int) :: ([.constantLong RX5 160 (100), .constantLong RX5 249 (9), .methodLink RX5 243 yX5_isNoKind, .static yX5_isNoKind, .initialized RX5, .code yX5_isNoKind cX5_isNoKind 1 (some .boolean), .methodLink RX5 199 yX5_isNoFigure, .static yX5_isNoFigure, .code yX5_isNoFigure cX5_isNoFigure 1 (some .boolean), .methodLink RX5 157 yX5_isNoHundredth, .static yX5_isNoHundredth, .code yX5_isNoHundredth cX5_isNoHundredth 1 (some .boolean), .methodLink RX5 246 yX5_keepsOf, .static yX5_keepsOf, .code yX5_keepsOf cX5_keepsOf 4 (some .int)])
def wsX5_nextSeed : List Cond := .code yX5_nextSeed cX5_nextSeed 1 (some .int) :: ([.constant RX5 326 (1103515245)])
def wsX5_drawOf : List Cond := .code yX5_drawOf cX5_drawOf 1 (some .int) :: ([.constant RX5 327 (2147483647), .constant RX5 328 (65536)])
def wsX5_seeded_r1 : List Cond := [Cond.fieldLink RX5 32 "ThirdOfTheLast" "trial" "LThirdOfTheLast$Flavour;", Cond.methodLink RX5 120 yX5_isNoTaste, Cond.static yX5_isNoTaste, Cond.initialized RX5, Cond.code yX5_isNoTaste cX5_isNoTaste 1 (some .boolean), Cond.methodLink RX5 219 yX0_clear, Cond.instanceMethod yX0_clear, Cond.selects RX0 yX0_clear yX0_clear, Cond.initialized RX0, Cond.code yX0_clear cX0_clear 2 none, Cond.fieldLink RX0 9 "ThirdOfTheLast$Flavour" "above" "[J", Cond.fieldLink RX0 15 "ThirdOfTheLast$Flavour" "below" "J", Cond.fieldLink RX0 19 "ThirdOfTheLast$Flavour" "count" "I", Cond.methodLink RX5 251 yX5_nextSeed, Cond.static yX5_nextSeed, Cond.code yX5_nextSeed cX5_nextSeed 1 (some .int), Cond.constant RX5 326 (1103515245), Cond.methodLink RX5 254 yX5_drawOf, Cond.static yX5_drawOf, Cond.code yX5_drawOf cX5_drawOf 1 (some .int), Cond.constant RX5 327 (2147483647), Cond.constant RX5 328 (65536), Cond.methodLink RX5 239 yX0_takeIn, Cond.instanceMethod yX0_takeIn]
def wsX5_seeded_r2 : List Cond := [Cond.selects RX0 yX0_takeIn yX0_takeIn, Cond.code yX0_takeIn cX0_takeIn 5 none, Cond.constantLong RX0 27 (9), Cond.static yX5_keepsOf, Cond.code yX5_keepsOf cX5_keepsOf 4 (some .int), Cond.static yX5_ownOf, Cond.code yX5_ownOf cX5_ownOf 6 (some .int), Cond.methodLink RX5 141 yX0_portionOf, Cond.instanceMethod yX0_portionOf, Cond.selects RX0 yX0_portionOf yX0_portionOf, Cond.code yX0_portionOf cX0_portionOf 4 (some .int), Cond.constantLong RX0 45 (100), Cond.methodLink RX0 41 yX0_totalAbove, Cond.instanceMethod yX0_totalAbove, Cond.selects RX0 yX0_totalAbove yX0_totalAbove, Cond.code yX0_totalAbove cX0_totalAbove 4 (some .long)]
def wsX5_seeded : List Cond := .code yX5_seeded cX5_seeded 7 (some .int) :: ((wsX5_seeded_r1 ++ wsX5_seeded_r2) ++ wsX50 ++ wsX00)
def wsX5_judge_r1 : List Cond := [Cond.fieldLink RX5 42 "ThirdOfTheLast" "shelves" "[LThirdOfTheLast$Shelf;", Cond.fieldLink RX5 10 "ThirdOfTheLast" "now" "LThirdOfTheLast$Kitchen;", Cond.fieldLink RX5 78 "ThirdOfTheLast$Kitchen" "size" "I", Cond.fieldLink RX5 59 "ThirdOfTheLast$Shelf" "size" "I", Cond.methodLink RX5 260 Lib.Math.min.name, Cond.static Lib.Math.min.name, Cond.initialized "java/lang/Math", Cond.code Lib.Math.min.name Lib.Math.min.code 2 (some .int), Cond.fieldLink RX5 266 "ThirdOfTheLast$Shelf" "elements" "[I", Cond.fieldLink RX5 86 "ThirdOfTheLast$Kitchen" "pots" "[LThirdOfTheLast$Pot;", Cond.fieldLink RX5 102 "ThirdOfTheLast$Pot" "flavour" "LThirdOfTheLast$Flavour;", Cond.methodLink RX5 257 yX5_rowRefusal, Cond.instanceMethod yX5_rowRefusal, Cond.selects RX5 yX5_rowRefusal yX5_rowRefusal, Cond.initialized RX5, Cond.code yX5_rowRefusal cX5_rowRefusal 2 (some .int), Cond.methodLink RX5 183 yX5_isNoShelf, Cond.static yX5_isNoShelf, Cond.code yX5_isNoShelf cX5_isNoShelf 1 (some .boolean), Cond.methodLink RX5 300 yX4_holdsNothing, Cond.instanceMethod yX4_holdsNothing, Cond.selects RX4 yX4_holdsNothing yX4_holdsNothing, Cond.initialized RX4, Cond.code yX4_holdsNothing cX4_holdsNothing 1 (some .boolean)]
def wsX5_judge_r2 : List Cond := [Cond.fieldLink RX4 15 "ThirdOfTheLast$Shelf" "held" "I", Cond.methodLink RX5 294 yX4_holdsRow, Cond.instanceMethod yX4_holdsRow, Cond.selects RX4 yX4_holdsRow yX4_holdsRow, Cond.code yX4_holdsRow cX4_holdsRow 1 (some .boolean), Cond.methodLink RX5 263 yX4_leastNumber, Cond.instanceMethod yX4_leastNumber, Cond.selects RX4 yX4_leastNumber yX4_leastNumber, Cond.code yX4_leastNumber cX4_leastNumber 1 (some .int), Cond.fieldLink RX4 25 "ThirdOfTheLast$Shelf" "sort" "I", Cond.constant RX4 45 (-2147483648), Cond.methodLink RX5 141 yX0_portionOf, Cond.instanceMethod yX0_portionOf, Cond.selects RX0 yX0_portionOf yX0_portionOf, Cond.initialized RX0, Cond.code yX0_portionOf cX0_portionOf 4 (some .int), Cond.constantLong RX0 45 (100), Cond.fieldLink RX0 9 "ThirdOfTheLast$Flavour" "above" "[J", Cond.methodLink RX0 41 yX0_totalAbove, Cond.instanceMethod yX0_totalAbove, Cond.selects RX0 yX0_totalAbove yX0_totalAbove, Cond.code yX0_totalAbove cX0_totalAbove 4 (some .long)]
def wsX5_judge : List Cond := .code yX5_judge cX5_judge 9 (some .int) :: ((wsX5_judge_r1 ++ wsX5_judge_r2) ++ wsX50 ++ wsX10 ++ wsX40 ++ wsX30 ++ wsX00)
def wsX5_image_r1 : List Cond := [Cond.fieldLink RX5 19 "ThirdOfTheLast" "kept" "LThirdOfTheLast$Kitchen;", Cond.fieldLink RX5 10 "ThirdOfTheLast" "now" "LThirdOfTheLast$Kitchen;", Cond.fieldLink RX5 269 "ThirdOfTheLast" "isKept" "Z", Cond.fieldLink RX5 78 "ThirdOfTheLast$Kitchen" "size" "I", Cond.methodLink RX5 55 yX1_become, Cond.instanceMethod yX1_become, Cond.selects RX1 yX1_become yX1_become, Cond.initialized RX1, Cond.code yX1_become cX1_become 3 none, Cond.fieldLink RX1 18 "ThirdOfTheLast$Kitchen" "size" "I", Cond.fieldLink RX1 11 "ThirdOfTheLast$Kitchen" "pots" "[LThirdOfTheLast$Pot;", Cond.methodLink RX1 22 yX3_become, Cond.instanceMethod yX3_become, Cond.selects RX3 yX3_become yX3_become, Cond.initialized RX3, Cond.code yX3_become cX3_become 2 none, Cond.fieldLink RX3 12 "ThirdOfTheLast$Pot" "flavour" "LThirdOfTheLast$Flavour;", Cond.fieldLink RX3 18 "ThirdOfTheLast$Pot" "kinds" "[I", Cond.methodLink RX3 29 arraycopyName, Cond.native arraycopyName, Cond.static arraycopyName, Cond.initialized "java/lang/System", Cond.fieldLink RX3 22 "ThirdOfTheLast$Pot" "figures" "[I", Cond.methodLink RX3 25 yX0_become]
def wsX5_image_r2 : List Cond := [Cond.instanceMethod yX0_become, Cond.selects RX0 yX0_become yX0_become, Cond.initialized RX0, Cond.code yX0_become cX0_become 3 none, Cond.fieldLink RX0 9 "ThirdOfTheLast$Flavour" "above" "[J", Cond.fieldLink RX0 15 "ThirdOfTheLast$Flavour" "below" "J", Cond.fieldLink RX0 19 "ThirdOfTheLast$Flavour" "count" "I"]
def wsX5_image : List Cond := .code yX5_image cX5_image 1 (some .int) :: ((wsX5_image_r1 ++ wsX5_image_r2) ++ wsX50 ++ wsX10 ++ wsX30 ++ wsX00)
def wsX5_restore_r1 : List Cond := [Cond.fieldLink RX5 269 "ThirdOfTheLast" "isKept" "Z", Cond.fieldLink RX5 10 "ThirdOfTheLast" "now" "LThirdOfTheLast$Kitchen;", Cond.fieldLink RX5 19 "ThirdOfTheLast" "kept" "LThirdOfTheLast$Kitchen;", Cond.fieldLink RX5 78 "ThirdOfTheLast$Kitchen" "size" "I", Cond.methodLink RX5 55 yX1_become, Cond.instanceMethod yX1_become, Cond.selects RX1 yX1_become yX1_become, Cond.initialized RX1, Cond.code yX1_become cX1_become 3 none, Cond.fieldLink RX1 18 "ThirdOfTheLast$Kitchen" "size" "I", Cond.fieldLink RX1 11 "ThirdOfTheLast$Kitchen" "pots" "[LThirdOfTheLast$Pot;", Cond.methodLink RX1 22 yX3_become, Cond.instanceMethod yX3_become, Cond.selects RX3 yX3_become yX3_become, Cond.initialized RX3, Cond.code yX3_become cX3_become 2 none, Cond.fieldLink RX3 12 "ThirdOfTheLast$Pot" "flavour" "LThirdOfTheLast$Flavour;", Cond.fieldLink RX3 18 "ThirdOfTheLast$Pot" "kinds" "[I", Cond.methodLink RX3 29 arraycopyName, Cond.native arraycopyName, Cond.static arraycopyName, Cond.initialized "java/lang/System", Cond.fieldLink RX3 22 "ThirdOfTheLast$Pot" "figures" "[I", Cond.methodLink RX3 25 yX0_become]
def wsX5_restore_r2 : List Cond := [Cond.instanceMethod yX0_become, Cond.selects RX0 yX0_become yX0_become, Cond.initialized RX0, Cond.code yX0_become cX0_become 3 none, Cond.fieldLink RX0 9 "ThirdOfTheLast$Flavour" "above" "[J", Cond.fieldLink RX0 15 "ThirdOfTheLast$Flavour" "below" "J", Cond.fieldLink RX0 19 "ThirdOfTheLast$Flavour" "count" "I"]
def wsX5_restore : List Cond := .code yX5_restore cX5_restore 1 (some .int) :: ((wsX5_restore_r1 ++ wsX5_restore_r2) ++ wsX50 ++ wsX10 ++ wsX30 ++ wsX00)
def wsX5_count : List Cond := .code yX5_count cX5_count 5 (some .int) :: ([.fieldLink RX5 10 "ThirdOfTheLast" "now" "LThirdOfTheLast$Kitchen;", .fieldLink RX5 78 "ThirdOfTheLast$Kitchen" "size" "I", .fieldLink RX5 86 "ThirdOfTheLast$Kitchen" "pots" "[LThirdOfTheLast$Pot;", .fieldLink RX5 102 "ThirdOfTheLast$Pot" "flavour" "LThirdOfTheLast$Flavour;", .fieldLink RX5 105 "ThirdOfTheLast$Flavour" "count" "I", .methodLink RX5 137 yX0_totalAbove, .instanceMethod yX0_totalAbove, .selects RX0 yX0_totalAbove yX0_totalAbove, .initialized RX0, .code yX0_totalAbove cX0_totalAbove 4 (some .long), .fieldLink RX0 9 "ThirdOfTheLast$Flavour" "above" "[J", .methodLink RX5 273 yX3_howManyOf, .instanceMethod yX3_howManyOf, .selects RX3 yX3_howManyOf yX3_howManyOf, .initialized RX3, .code yX3_howManyOf cX3_howManyOf 4 (some .int), .fieldLink RX3 12 "ThirdOfTheLast$Pot" "flavour" "LThirdOfTheLast$Flavour;", .fieldLink RX3 39 "ThirdOfTheLast$Flavour" "count" "I", .fieldLink RX3 18 "ThirdOfTheLast$Pot" "kinds" "[I"] ++ wsX50 ++ wsX10 ++ wsX30 ++ wsX00)
def wsX5_keep_r1 : List Cond := [Cond.fieldLink RX5 42 "ThirdOfTheLast" "shelves" "[LThirdOfTheLast$Shelf;", Cond.methodLink RX5 183 yX5_isNoShelf, Cond.static yX5_isNoShelf, Cond.initialized RX5, Cond.code yX5_isNoShelf cX5_isNoShelf 1 (some .boolean), Cond.methodLink RX5 108 yX5_isNoHalf, Cond.static yX5_isNoHalf, Cond.code yX5_isNoHalf cX5_isNoHalf 1 (some .boolean), Cond.methodLink RX5 276 yX4_holdNothing, Cond.instanceMethod yX4_holdNothing, Cond.selects RX4 yX4_holdNothing yX4_holdNothing, Cond.initialized RX4, Cond.code yX4_holdNothing cX4_holdNothing 1 none, Cond.fieldLink RX4 15 "ThirdOfTheLast$Shelf" "held" "I", Cond.methodLink RX5 243 yX5_isNoKind, Cond.static yX5_isNoKind, Cond.code yX5_isNoKind cX5_isNoKind 1 (some .boolean), Cond.methodLink RX5 199 yX5_isNoFigure, Cond.static yX5_isNoFigure, Cond.code yX5_isNoFigure cX5_isNoFigure 1 (some .boolean), Cond.methodLink RX5 279 yX4_holdDish, Cond.instanceMethod yX4_holdDish, Cond.selects RX4 yX4_holdDish yX4_holdDish, Cond.code yX4_holdDish cX4_holdDish 3 none]
def wsX5_keep_r2 : List Cond := [Cond.fieldLink RX4 19 "ThirdOfTheLast$Shelf" "kind" "I", Cond.fieldLink RX4 22 "ThirdOfTheLast$Shelf" "figure" "I"]
def wsX5_keep : List Cond := .code yX5_keep cX5_keep 5 (some .int) :: ((wsX5_keep_r1 ++ wsX5_keep_r2) ++ wsX50 ++ wsX40)
def wsX5_row : List Cond := .code yX5_row cX5_row 4 (some .int) :: ([.fieldLink RX5 42 "ThirdOfTheLast" "shelves" "[LThirdOfTheLast$Shelf;", .methodLink RX5 183 yX5_isNoShelf, .static yX5_isNoShelf, .initialized RX5, .code yX5_isNoShelf cX5_isNoShelf 1 (some .boolean), .methodLink RX5 282 yX4_holdRow, .instanceMethod yX4_holdRow, .selects RX4 yX4_holdRow yX4_holdRow, .initialized RX4, .code yX4_holdRow cX4_holdRow 4 none, .fieldLink RX4 15 "ThirdOfTheLast$Shelf" "held" "I", .fieldLink RX4 25 "ThirdOfTheLast$Shelf" "sort" "I", .fieldLink RX4 28 "ThirdOfTheLast$Shelf" "size" "I", .fieldLink RX4 9 "ThirdOfTheLast$Shelf" "elements" "[I"] ++ wsX50 ++ wsX40)
def wsX5_put_r1 : List Cond := [Cond.fieldLink RX5 42 "ThirdOfTheLast" "shelves" "[LThirdOfTheLast$Shelf;", Cond.fieldLink RX5 266 "ThirdOfTheLast$Shelf" "elements" "[I", Cond.methodLink RX5 257 yX5_rowRefusal, Cond.instanceMethod yX5_rowRefusal, Cond.selects RX5 yX5_rowRefusal yX5_rowRefusal, Cond.initialized RX5, Cond.code yX5_rowRefusal cX5_rowRefusal 2 (some .int), Cond.methodLink RX5 183 yX5_isNoShelf, Cond.static yX5_isNoShelf, Cond.code yX5_isNoShelf cX5_isNoShelf 1 (some .boolean), Cond.methodLink RX5 300 yX4_holdsNothing, Cond.instanceMethod yX4_holdsNothing, Cond.selects RX4 yX4_holdsNothing yX4_holdsNothing, Cond.initialized RX4, Cond.code yX4_holdsNothing cX4_holdsNothing 1 (some .boolean), Cond.fieldLink RX4 15 "ThirdOfTheLast$Shelf" "held" "I", Cond.methodLink RX5 294 yX4_holdsRow, Cond.instanceMethod yX4_holdsRow, Cond.selects RX4 yX4_holdsRow yX4_holdsRow, Cond.code yX4_holdsRow cX4_holdsRow 1 (some .boolean), Cond.methodLink RX5 285 yX4_hasElement, Cond.instanceMethod yX4_hasElement, Cond.selects RX4 yX4_hasElement yX4_hasElement, Cond.code yX4_hasElement cX4_hasElement 2 (some .boolean)]
def wsX5_put_r2 : List Cond := [Cond.fieldLink RX4 28 "ThirdOfTheLast$Shelf" "size" "I", Cond.methodLink RX5 288 yX4_lowestBits, Cond.instanceMethod yX4_lowestBits, Cond.selects RX4 yX4_lowestBits yX4_lowestBits, Cond.code yX4_lowestBits cX4_lowestBits 2 (some .int), Cond.fieldLink RX4 25 "ThirdOfTheLast$Shelf" "sort" "I"]
def wsX5_put : List Cond := .code yX5_put cX5_put 5 (some .int) :: ((wsX5_put_r1 ++ wsX5_put_r2) ++ wsX50 ++ wsX40)
def wsX5_element : List Cond := .code yX5_element cX5_element 3 (some .long) :: ([.classLink RX5 291 "java/lang/IllegalArgumentException", .initialized "java/lang/IllegalArgumentException", .classLink RX5 297 "java/lang/IllegalStateException", .initialized "java/lang/IllegalStateException", .fieldLink RX5 42 "ThirdOfTheLast" "shelves" "[LThirdOfTheLast$Shelf;", .fieldLink RX5 266 "ThirdOfTheLast$Shelf" "elements" "[I", .methodLink RX5 183 yX5_isNoShelf, .static yX5_isNoShelf, .initialized RX5, .code yX5_isNoShelf cX5_isNoShelf 1 (some .boolean), .methodLink RX5 294 yX4_holdsRow, .instanceMethod yX4_holdsRow, .selects RX4 yX4_holdsRow yX4_holdsRow, .initialized RX4, .code yX4_holdsRow cX4_holdsRow 1 (some .boolean), .fieldLink RX4 15 "ThirdOfTheLast$Shelf" "held" "I", .methodLink RX5 285 yX4_hasElement, .instanceMethod yX4_hasElement, .selects RX4 yX4_hasElement yX4_hasElement, .code yX4_hasElement cX4_hasElement 2 (some .boolean), .fieldLink RX4 28 "ThirdOfTheLast$Shelf" "size" "I"] ++ wsX50 ++ wsX40 ++ (vx_at0 RX5 293 "java/lang/IllegalArgumentException" ["java/lang/RuntimeException", "java/lang/Exception"]).filter goodWord ++ (vx_at0 RX5 299 "java/lang/IllegalStateException" ["java/lang/RuntimeException", "java/lang/Exception"]).filter goodWord)
def wsX5_copy_r1 : List Cond := [Cond.fieldLink RX5 42 "ThirdOfTheLast" "shelves" "[LThirdOfTheLast$Shelf;", Cond.fieldLink RX5 303 "ThirdOfTheLast$Shelf" "sort" "I", Cond.fieldLink RX5 266 "ThirdOfTheLast$Shelf" "elements" "[I", Cond.methodLink RX5 309 arraycopyName, Cond.native arraycopyName, Cond.static arraycopyName, Cond.initialized "java/lang/System", Cond.methodLink RX5 183 yX5_isNoShelf, Cond.static yX5_isNoShelf, Cond.initialized RX5, Cond.code yX5_isNoShelf cX5_isNoShelf 1 (some .boolean), Cond.methodLink RX5 300 yX4_holdsNothing, Cond.instanceMethod yX4_holdsNothing, Cond.selects RX4 yX4_holdsNothing yX4_holdsNothing, Cond.initialized RX4, Cond.code yX4_holdsNothing cX4_holdsNothing 1 (some .boolean), Cond.fieldLink RX4 15 "ThirdOfTheLast$Shelf" "held" "I", Cond.methodLink RX5 294 yX4_holdsRow, Cond.instanceMethod yX4_holdsRow, Cond.selects RX4 yX4_holdsRow yX4_holdsRow, Cond.code yX4_holdsRow cX4_holdsRow 1 (some .boolean), Cond.methodLink RX5 306 yX4_hasElements, Cond.instanceMethod yX4_hasElements, Cond.selects RX4 yX4_hasElements yX4_hasElements]
def wsX5_copy_r2 : List Cond := [Cond.code yX4_hasElements cX4_hasElements 3 (some .boolean), Cond.fieldLink RX4 28 "ThirdOfTheLast$Shelf" "size" "I"]
def wsX5_copy : List Cond := .code yX5_copy cX5_copy 8 (some .int) :: ((wsX5_copy_r1 ++ wsX5_copy_r2) ++ wsX50 ++ wsX40)
def wsX5_priceOf : List Cond := .code yX5_priceOf cX5_priceOf 5 (some .int) :: ([])
def wsX5_price : List Cond := .code yX5_price cX5_price 3 (some .int) :: ([.fieldLink RX5 42 "ThirdOfTheLast" "shelves" "[LThirdOfTheLast$Shelf;", .fieldLink RX5 90 "ThirdOfTheLast$Shelf" "kind" "I", .fieldLink RX5 93 "ThirdOfTheLast$Shelf" "figure" "I", .methodLink RX5 83 yX5_dishRefusal, .instanceMethod yX5_dishRefusal, .selects RX5 yX5_dishRefusal yX5_dishRefusal, .initialized RX5, .code yX5_dishRefusal cX5_dishRefusal 2 (some .int), .methodLink RX5 183 yX5_isNoShelf, .static yX5_isNoShelf, .code yX5_isNoShelf cX5_isNoShelf 1 (some .boolean), .methodLink RX5 300 yX4_holdsNothing, .instanceMethod yX4_holdsNothing, .selects RX4 yX4_holdsNothing yX4_holdsNothing, .initialized RX4, .code yX4_holdsNothing cX4_holdsNothing 1 (some .boolean), .fieldLink RX4 15 "ThirdOfTheLast$Shelf" "held" "I", .methodLink RX5 294 yX4_holdsRow, .instanceMethod yX4_holdsRow, .selects RX4 yX4_holdsRow yX4_holdsRow, .code yX4_holdsRow cX4_holdsRow 1 (some .boolean), .methodLink RX5 315 yX5_priceOf, .static yX5_priceOf, .code yX5_priceOf cX5_priceOf 5 (some .int)] ++ wsX50 ++ wsX40)
def wsX5_toss : List Cond := .code yX5_toss cX5_toss 5 (some .int) :: ([.fieldLink RX5 42 "ThirdOfTheLast" "shelves" "[LThirdOfTheLast$Shelf;", .fieldLink RX5 90 "ThirdOfTheLast$Shelf" "kind" "I", .fieldLink RX5 93 "ThirdOfTheLast$Shelf" "figure" "I", .methodLink RX5 83 yX5_dishRefusal, .instanceMethod yX5_dishRefusal, .selects RX5 yX5_dishRefusal yX5_dishRefusal, .initialized RX5, .code yX5_dishRefusal cX5_dishRefusal 2 (some .int), .methodLink RX5 183 yX5_isNoShelf, .static yX5_isNoShelf, .code yX5_isNoShelf cX5_isNoShelf 1 (some .boolean), .methodLink RX5 300 yX4_holdsNothing, .instanceMethod yX4_holdsNothing, .selects RX4 yX4_holdsNothing yX4_holdsNothing, .initialized RX4, .code yX4_holdsNothing cX4_holdsNothing 1 (some .boolean), .fieldLink RX4 15 "ThirdOfTheLast$Shelf" "held" "I", .methodLink RX5 294 yX4_holdsRow, .instanceMethod yX4_holdsRow, .selects RX4 yX4_holdsRow yX4_holdsRow, .code yX4_holdsRow cX4_holdsRow 1 (some .boolean), .methodLink RX5 315 yX5_priceOf, .static yX5_priceOf, .code yX5_priceOf cX5_priceOf 5 (some .int)] ++ wsX50 ++ wsX40)
def wsX6_init_r1 : List Cond := [Cond.methodLink RX6 1 objectInit, Cond.instanceMethod objectInit, Cond.code objectInit ⟨#[0xb1]⟩ 1 none, Cond.arrayClass .long, Cond.fieldLink RX6 7 "ThirdOfTheLastModel" "tastes" "[J", Cond.arrayClass .int, Cond.fieldLink RX6 13 "ThirdOfTheLastModel" "dishMany" "[I", Cond.fieldLink RX6 17 "ThirdOfTheLastModel" "kinds" "[I", Cond.fieldLink RX6 20 "ThirdOfTheLastModel" "figures" "[I", Cond.fieldLink RX6 23 "ThirdOfTheLastModel" "imagedTastes" "[J", Cond.fieldLink RX6 26 "ThirdOfTheLastModel" "imagedMany" "[I", Cond.fieldLink RX6 29 "ThirdOfTheLastModel" "imagedKinds" "[I", Cond.fieldLink RX6 32 "ThirdOfTheLastModel" "imagedFigures" "[I", Cond.fieldLink RX6 35 "ThirdOfTheLastModel" "keptTastes" "[J", Cond.fieldLink RX6 38 "ThirdOfTheLastModel" "keptMany" "[I", Cond.fieldLink RX6 41 "ThirdOfTheLastModel" "keptKinds" "[I", Cond.fieldLink RX6 44 "ThirdOfTheLastModel" "keptFigures" "[I", Cond.fieldLink RX6 47 "ThirdOfTheLastModel" "placeOf" "[I", Cond.fieldLink RX6 50 "ThirdOfTheLastModel" "letterOf" "[I", Cond.fieldLink RX6 53 "ThirdOfTheLastModel" "told" "[I", Cond.fieldLink RX6 56 "ThirdOfTheLastModel" "holdsWhat" "[I", Cond.fieldLink RX6 59 "ThirdOfTheLastModel" "dishKind" "[I", Cond.fieldLink RX6 62 "ThirdOfTheLastModel" "dishFigure" "[I", Cond.fieldLink RX6 65 "ThirdOfTheLastModel" "rowSort" "[I"]
def wsX6_init_r2 : List Cond := [Cond.fieldLink RX6 68 "ThirdOfTheLastModel" "rowMany" "[I", Cond.fieldLink RX6 71 "ThirdOfTheLastModel" "rows" "[J", Cond.fieldLink RX6 74 "ThirdOfTheLastModel" "between" "[J", Cond.fieldLink RX6 77 "ThirdOfTheLastModel" "thrown" "I"]
def wsX6_init : List Cond := .code yX6_init cX6_init 1 none :: ((wsX6_init_r1 ++ wsX6_init_r2) ++ wsX60)
def wsX6_thrown : List Cond := .code yX6_thrown cX6_thrown 1 (some .int) :: ([.fieldLink RX6 77 "ThirdOfTheLastModel" "thrown" "I"] ++ wsX60)
def wsX6_in : List Cond := .code yX6_in cX6_in 6 (some .boolean) :: ([])
def wsX6_isPot : List Cond := .code yX6_isPot cX6_isPot 2 (some .boolean) :: ([.fieldLink RX6 81 "ThirdOfTheLastModel" "pots" "I", .methodLink RX6 84 yX6_in, .static yX6_in, .initialized RX6, .code yX6_in cX6_in 6 (some .boolean)] ++ wsX60)
def wsX6_ownOf : List Cond := .code yX6_ownOf cX6_ownOf 4 (some .int) :: ([])
def wsX6_keepsOf : List Cond := .code yX6_keepsOf cX6_keepsOf 1 (some .int) :: ([])
def wsX6_priceOf : List Cond := .code yX6_priceOf cX6_priceOf 2 (some .int) :: ([])
def wsX6_nine : List Cond := .code yX6_nine cX6_nine 4 (some .long) :: ([.constantLong RX6 88 (9)])
def wsX6_becomes : List Cond := .code yX6_becomes cX6_becomes 8 none :: ([.fieldLink RX6 13 "ThirdOfTheLastModel" "dishMany" "[I", .fieldLink RX6 7 "ThirdOfTheLastModel" "tastes" "[J", .fieldLink RX6 17 "ThirdOfTheLastModel" "kinds" "[I", .fieldLink RX6 20 "ThirdOfTheLastModel" "figures" "[I", .methodLink RX6 90 yX6_nine, .static yX6_nine, .initialized RX6, .code yX6_nine cX6_nine 4 (some .long), .constantLong RX6 88 (9), .methodLink RX6 94 yX6_ownOf, .static yX6_ownOf, .code yX6_ownOf cX6_ownOf 4 (some .int), .methodLink RX6 98 yX6_keepsOf, .static yX6_keepsOf, .code yX6_keepsOf cX6_keepsOf 1 (some .int)] ++ wsX60)
def wsX6_cooks : List Cond := .code yX6_cooks cX6_cooks 5 (some .boolean) :: ([.fieldLink RX6 13 "ThirdOfTheLastModel" "dishMany" "[I", .methodLink RX6 102 yX6_becomes, .instanceMethod yX6_becomes, .selects RX6 yX6_becomes yX6_becomes, .initialized RX6, .code yX6_becomes cX6_becomes 8 none, .fieldLink RX6 7 "ThirdOfTheLastModel" "tastes" "[J", .fieldLink RX6 17 "ThirdOfTheLastModel" "kinds" "[I", .fieldLink RX6 20 "ThirdOfTheLastModel" "figures" "[I", .methodLink RX6 90 yX6_nine, .static yX6_nine, .code yX6_nine cX6_nine 4 (some .long), .constantLong RX6 88 (9), .methodLink RX6 94 yX6_ownOf, .static yX6_ownOf, .code yX6_ownOf cX6_ownOf 4 (some .int), .methodLink RX6 98 yX6_keepsOf, .static yX6_keepsOf, .code yX6_keepsOf cX6_keepsOf 1 (some .int)] ++ wsX60)
def wsX6_empty : List Cond := .code yX6_empty cX6_empty 3 none :: ([.fieldLink RX6 13 "ThirdOfTheLastModel" "dishMany" "[I", .fieldLink RX6 7 "ThirdOfTheLastModel" "tastes" "[J"] ++ wsX60)
def wsX6_same : List Cond := .code yX6_same cX6_same 4 none :: ([.fieldLink RX6 13 "ThirdOfTheLastModel" "dishMany" "[I", .fieldLink RX6 7 "ThirdOfTheLastModel" "tastes" "[J", .fieldLink RX6 17 "ThirdOfTheLastModel" "kinds" "[I", .fieldLink RX6 20 "ThirdOfTheLastModel" "figures" "[I"] ++ wsX60)
def wsX6_allOf : List Cond := .code yX6_allOf cX6_allOf 5 (some .long) :: ([.fieldLink RX6 7 "ThirdOfTheLastModel" "tastes" "[J"] ++ wsX60)
def wsX6_portionOf : List Cond := .code yX6_portionOf cX6_portionOf 5 (some .int) :: ([.constantLong RX6 109 (100), .fieldLink RX6 7 "ThirdOfTheLastModel" "tastes" "[J", .methodLink RX6 106 yX6_allOf, .instanceMethod yX6_allOf, .selects RX6 yX6_allOf yX6_allOf, .initialized RX6, .code yX6_allOf cX6_allOf 5 (some .long)] ++ wsX60)
def wsX6_isOver : List Cond := .code yX6_isOver cX6_isOver 4 (some .boolean) :: ([.constantLong RX6 109 (100), .fieldLink RX6 7 "ThirdOfTheLastModel" "tastes" "[J", .methodLink RX6 106 yX6_allOf, .instanceMethod yX6_allOf, .selects RX6 yX6_allOf yX6_allOf, .initialized RX6, .code yX6_allOf cX6_allOf 5 (some .long)] ++ wsX60)
def wsX6_doesHarm : List Cond := .code yX6_doesHarm cX6_doesHarm 6 (some .boolean) :: ([.methodLink RX6 111 yX6_isOver, .instanceMethod yX6_isOver, .selects RX6 yX6_isOver yX6_isOver, .initialized RX6, .code yX6_isOver cX6_isOver 4 (some .boolean), .constantLong RX6 109 (100), .fieldLink RX6 7 "ThirdOfTheLastModel" "tastes" "[J", .methodLink RX6 106 yX6_allOf, .instanceMethod yX6_allOf, .selects RX6 yX6_allOf yX6_allOf, .code yX6_allOf cX6_allOf 5 (some .long)] ++ wsX60)
def wsX6_copyLongs : List Cond := .code yX6_copyLongs cX6_copyLongs 3 none :: ([])
def wsX6_copyInts : List Cond := .code yX6_copyInts cX6_copyInts 4 none :: ([])
def wsX6_open : List Cond := .code yX6_open cX6_open 1 none :: ([.fieldLink RX6 81 "ThirdOfTheLastModel" "pots" "I", .fieldLink RX6 115 "ThirdOfTheLastModel" "keptPots" "I", .fieldLink RX6 7 "ThirdOfTheLastModel" "tastes" "[J", .fieldLink RX6 35 "ThirdOfTheLastModel" "keptTastes" "[J", .fieldLink RX6 13 "ThirdOfTheLastModel" "dishMany" "[I", .fieldLink RX6 38 "ThirdOfTheLastModel" "keptMany" "[I", .fieldLink RX6 17 "ThirdOfTheLastModel" "kinds" "[I", .fieldLink RX6 41 "ThirdOfTheLastModel" "keptKinds" "[I", .fieldLink RX6 20 "ThirdOfTheLastModel" "figures" "[I", .fieldLink RX6 44 "ThirdOfTheLastModel" "keptFigures" "[I", .methodLink RX6 118 yX6_copyLongs, .static yX6_copyLongs, .initialized RX6, .code yX6_copyLongs cX6_copyLongs 3 none, .methodLink RX6 122 yX6_copyInts, .static yX6_copyInts, .code yX6_copyInts cX6_copyInts 4 none] ++ wsX60)
def wsX6_close : List Cond := .code yX6_close cX6_close 1 none :: ([.fieldLink RX6 115 "ThirdOfTheLastModel" "keptPots" "I", .fieldLink RX6 81 "ThirdOfTheLastModel" "pots" "I", .fieldLink RX6 35 "ThirdOfTheLastModel" "keptTastes" "[J", .fieldLink RX6 7 "ThirdOfTheLastModel" "tastes" "[J", .fieldLink RX6 38 "ThirdOfTheLastModel" "keptMany" "[I", .fieldLink RX6 13 "ThirdOfTheLastModel" "dishMany" "[I", .fieldLink RX6 41 "ThirdOfTheLastModel" "keptKinds" "[I", .fieldLink RX6 17 "ThirdOfTheLastModel" "kinds" "[I", .fieldLink RX6 44 "ThirdOfTheLastModel" "keptFigures" "[I", .fieldLink RX6 20 "ThirdOfTheLastModel" "figures" "[I", .methodLink RX6 118 yX6_copyLongs, .static yX6_copyLongs, .initialized RX6, .code yX6_copyLongs cX6_copyLongs 3 none, .methodLink RX6 122 yX6_copyInts, .static yX6_copyInts, .code yX6_copyInts cX6_copyInts 4 none] ++ wsX60)
def wsX6_image : List Cond := .code yX6_image cX6_image 1 (some .int) :: ([.fieldLink RX6 77 "ThirdOfTheLastModel" "thrown" "I", .fieldLink RX6 126 "ThirdOfTheLastModel" "hasImage" "Z", .fieldLink RX6 81 "ThirdOfTheLastModel" "pots" "I", .fieldLink RX6 130 "ThirdOfTheLastModel" "imagedPots" "I", .fieldLink RX6 7 "ThirdOfTheLastModel" "tastes" "[J", .fieldLink RX6 23 "ThirdOfTheLastModel" "imagedTastes" "[J", .fieldLink RX6 13 "ThirdOfTheLastModel" "dishMany" "[I", .fieldLink RX6 26 "ThirdOfTheLastModel" "imagedMany" "[I", .fieldLink RX6 17 "ThirdOfTheLastModel" "kinds" "[I", .fieldLink RX6 29 "ThirdOfTheLastModel" "imagedKinds" "[I", .fieldLink RX6 20 "ThirdOfTheLastModel" "figures" "[I", .fieldLink RX6 32 "ThirdOfTheLastModel" "imagedFigures" "[I", .methodLink RX6 118 yX6_copyLongs, .static yX6_copyLongs, .initialized RX6, .code yX6_copyLongs cX6_copyLongs 3 none, .methodLink RX6 122 yX6_copyInts, .static yX6_copyInts, .code yX6_copyInts cX6_copyInts 4 none] ++ wsX60)
def wsX6_restore : List Cond := .code yX6_restore cX6_restore 1 (some .int) :: ([.fieldLink RX6 77 "ThirdOfTheLastModel" "thrown" "I", .fieldLink RX6 126 "ThirdOfTheLastModel" "hasImage" "Z", .fieldLink RX6 130 "ThirdOfTheLastModel" "imagedPots" "I", .fieldLink RX6 81 "ThirdOfTheLastModel" "pots" "I", .fieldLink RX6 23 "ThirdOfTheLastModel" "imagedTastes" "[J", .fieldLink RX6 7 "ThirdOfTheLastModel" "tastes" "[J", .fieldLink RX6 26 "ThirdOfTheLastModel" "imagedMany" "[I", .fieldLink RX6 13 "ThirdOfTheLastModel" "dishMany" "[I", .fieldLink RX6 29 "ThirdOfTheLastModel" "imagedKinds" "[I", .fieldLink RX6 17 "ThirdOfTheLastModel" "kinds" "[I", .fieldLink RX6 32 "ThirdOfTheLastModel" "imagedFigures" "[I", .fieldLink RX6 20 "ThirdOfTheLastModel" "figures" "[I", .methodLink RX6 118 yX6_copyLongs, .static yX6_copyLongs, .initialized RX6, .code yX6_copyLongs cX6_copyLongs 3 none, .methodLink RX6 122 yX6_copyInts, .static yX6_copyInts, .code yX6_copyInts cX6_copyInts 4 none] ++ wsX60)
def wsX6_here : List Cond := .code yX6_here cX6_here 1 (some .int) :: ([.fieldLink RX6 133 "ThirdOfTheLastModel" "at" "I", .fieldLink RX6 136 "ThirdOfTheLastModel" "end" "I", .fieldLink RX6 71 "ThirdOfTheLastModel" "rows" "[J", .fieldLink RX6 139 "ThirdOfTheLastModel" "base" "I"] ++ wsX60)
def wsX6_readDigit : List Cond := .code yX6_readDigit cX6_readDigit 1 (some .int) :: ([.fieldLink RX6 142 "ThirdOfTheLastModel" "isBad" "Z", .constantLong RX6 149 (48), .constantLong RX6 151 (57), .fieldLink RX6 133 "ThirdOfTheLastModel" "at" "I", .fieldLink RX6 71 "ThirdOfTheLastModel" "rows" "[J", .fieldLink RX6 139 "ThirdOfTheLastModel" "base" "I", .methodLink RX6 145 yX6_here, .instanceMethod yX6_here, .selects RX6 yX6_here yX6_here, .initialized RX6, .code yX6_here cX6_here 1 (some .int), .fieldLink RX6 136 "ThirdOfTheLastModel" "end" "I", .methodLink RX6 84 yX6_in, .static yX6_in, .code yX6_in cX6_in 6 (some .boolean)] ++ wsX60)
def wsX6_readStatement : List Cond := .code yX6_readStatement cX6_readStatement 5 none :: ([.fieldLink RX6 153 "ThirdOfTheLastModel" "statements" "I", .fieldLink RX6 47 "ThirdOfTheLastModel" "placeOf" "[I", .fieldLink RX6 133 "ThirdOfTheLastModel" "at" "I", .fieldLink RX6 50 "ThirdOfTheLastModel" "letterOf" "[I", .fieldLink RX6 142 "ThirdOfTheLastModel" "isBad" "Z", .fieldLink RX6 53 "ThirdOfTheLastModel" "told" "[I", .methodLink RX6 145 yX6_here, .instanceMethod yX6_here, .selects RX6 yX6_here yX6_here, .initialized RX6, .code yX6_here cX6_here 1 (some .int), .fieldLink RX6 136 "ThirdOfTheLastModel" "end" "I", .fieldLink RX6 71 "ThirdOfTheLastModel" "rows" "[J", .fieldLink RX6 139 "ThirdOfTheLastModel" "base" "I", .methodLink RX6 156 yX6_readDigit, .instanceMethod yX6_readDigit, .selects RX6 yX6_readDigit yX6_readDigit, .code yX6_readDigit cX6_readDigit 1 (some .int), .constantLong RX6 149 (48), .constantLong RX6 151 (57), .methodLink RX6 84 yX6_in, .static yX6_in, .code yX6_in cX6_in 6 (some .boolean)] ++ wsX60)
def wsX6_comes_r1 : List Cond := [Cond.fieldLink RX6 53 "ThirdOfTheLastModel" "told" "[I", Cond.fieldLink RX6 50 "ThirdOfTheLastModel" "letterOf" "[I", Cond.fieldLink RX6 81 "ThirdOfTheLastModel" "pots" "I", Cond.methodLink RX6 159 yX6_empty, Cond.instanceMethod yX6_empty, Cond.selects RX6 yX6_empty yX6_empty, Cond.initialized RX6, Cond.code yX6_empty cX6_empty 3 none, Cond.fieldLink RX6 13 "ThirdOfTheLastModel" "dishMany" "[I", Cond.fieldLink RX6 7 "ThirdOfTheLastModel" "tastes" "[J", Cond.methodLink RX6 163 yX6_isPot, Cond.instanceMethod yX6_isPot, Cond.selects RX6 yX6_isPot yX6_isPot, Cond.code yX6_isPot cX6_isPot 2 (some .boolean), Cond.methodLink RX6 84 yX6_in, Cond.static yX6_in, Cond.code yX6_in cX6_in 6 (some .boolean), Cond.methodLink RX6 167 yX6_cooks, Cond.instanceMethod yX6_cooks, Cond.selects RX6 yX6_cooks yX6_cooks, Cond.code yX6_cooks cX6_cooks 5 (some .boolean), Cond.methodLink RX6 102 yX6_becomes, Cond.instanceMethod yX6_becomes, Cond.selects RX6 yX6_becomes yX6_becomes]
def wsX6_comes_r2 : List Cond := [Cond.code yX6_becomes cX6_becomes 8 none, Cond.fieldLink RX6 17 "ThirdOfTheLastModel" "kinds" "[I", Cond.fieldLink RX6 20 "ThirdOfTheLastModel" "figures" "[I", Cond.methodLink RX6 90 yX6_nine, Cond.static yX6_nine, Cond.code yX6_nine cX6_nine 4 (some .long), Cond.constantLong RX6 88 (9), Cond.methodLink RX6 94 yX6_ownOf, Cond.static yX6_ownOf, Cond.code yX6_ownOf cX6_ownOf 4 (some .int), Cond.methodLink RX6 98 yX6_keepsOf, Cond.static yX6_keepsOf, Cond.code yX6_keepsOf cX6_keepsOf 1 (some .int), Cond.methodLink RX6 170 yX6_same, Cond.instanceMethod yX6_same, Cond.selects RX6 yX6_same yX6_same, Cond.code yX6_same cX6_same 4 none]
def wsX6_comes : List Cond := .code yX6_comes cX6_comes 5 (some .boolean) :: ((wsX6_comes_r1 ++ wsX6_comes_r2) ++ wsX60)
def wsX6_wrongRow : List Cond := .code yX6_wrongRow cX6_wrongRow 2 (some .int) :: ([.constantLong RX6 190 (7), .fieldLink RX6 56 "ThirdOfTheLastModel" "holdsWhat" "[I", .methodLink RX6 84 yX6_in, .static yX6_in, .initialized RX6, .code yX6_in cX6_in 6 (some .boolean)] ++ wsX60)
def wsX6_wrongSort : List Cond := .code yX6_wrongSort cX6_wrongSort 3 (some .int) :: ([.fieldLink RX6 65 "ThirdOfTheLastModel" "rowSort" "[I", .methodLink RX6 255 yX6_wrongRow, .instanceMethod yX6_wrongRow, .selects RX6 yX6_wrongRow yX6_wrongRow, .initialized RX6, .code yX6_wrongRow cX6_wrongRow 2 (some .int), .constantLong RX6 190 (7), .fieldLink RX6 56 "ThirdOfTheLastModel" "holdsWhat" "[I", .methodLink RX6 84 yX6_in, .static yX6_in, .code yX6_in cX6_in 6 (some .boolean)] ++ wsX60)
def wsX6_kitchen_r1 : List Cond := [Cond.fieldLink RX6 77 "ThirdOfTheLastModel" "thrown" "I", Cond.fieldLink RX6 139 "ThirdOfTheLastModel" "base" "I", Cond.fieldLink RX6 68 "ThirdOfTheLastModel" "rowMany" "[I", Cond.fieldLink RX6 136 "ThirdOfTheLastModel" "end" "I", Cond.fieldLink RX6 133 "ThirdOfTheLastModel" "at" "I", Cond.fieldLink RX6 142 "ThirdOfTheLastModel" "isBad" "Z", Cond.fieldLink RX6 153 "ThirdOfTheLastModel" "statements" "I", Cond.fieldLink RX6 47 "ThirdOfTheLastModel" "placeOf" "[I", Cond.methodLink RX6 174 yX6_wrongSort, Cond.instanceMethod yX6_wrongSort, Cond.selects RX6 yX6_wrongSort yX6_wrongSort, Cond.initialized RX6, Cond.code yX6_wrongSort cX6_wrongSort 3 (some .int), Cond.fieldLink RX6 65 "ThirdOfTheLastModel" "rowSort" "[I", Cond.methodLink RX6 255 yX6_wrongRow, Cond.instanceMethod yX6_wrongRow, Cond.selects RX6 yX6_wrongRow yX6_wrongRow, Cond.code yX6_wrongRow cX6_wrongRow 2 (some .int), Cond.constantLong RX6 190 (7), Cond.fieldLink RX6 56 "ThirdOfTheLastModel" "holdsWhat" "[I", Cond.methodLink RX6 84 yX6_in, Cond.static yX6_in, Cond.code yX6_in cX6_in 6 (some .boolean), Cond.methodLink RX6 178 yX6_readStatement]
def wsX6_kitchen_r2 : List Cond := [Cond.instanceMethod yX6_readStatement, Cond.selects RX6 yX6_readStatement yX6_readStatement, Cond.code yX6_readStatement cX6_readStatement 5 none, Cond.fieldLink RX6 50 "ThirdOfTheLastModel" "letterOf" "[I", Cond.fieldLink RX6 53 "ThirdOfTheLastModel" "told" "[I", Cond.methodLink RX6 145 yX6_here, Cond.instanceMethod yX6_here, Cond.selects RX6 yX6_here yX6_here, Cond.code yX6_here cX6_here 1 (some .int), Cond.fieldLink RX6 71 "ThirdOfTheLastModel" "rows" "[J", Cond.methodLink RX6 156 yX6_readDigit, Cond.instanceMethod yX6_readDigit, Cond.selects RX6 yX6_readDigit yX6_readDigit, Cond.code yX6_readDigit cX6_readDigit 1 (some .int), Cond.constantLong RX6 149 (48), Cond.constantLong RX6 151 (57), Cond.methodLink RX6 181 yX6_open, Cond.instanceMethod yX6_open, Cond.selects RX6 yX6_open yX6_open, Cond.code yX6_open cX6_open 1 none, Cond.fieldLink RX6 81 "ThirdOfTheLastModel" "pots" "I", Cond.fieldLink RX6 115 "ThirdOfTheLastModel" "keptPots" "I", Cond.fieldLink RX6 7 "ThirdOfTheLastModel" "tastes" "[J", Cond.fieldLink RX6 35 "ThirdOfTheLastModel" "keptTastes" "[J"]
def wsX6_kitchen_r3 : List Cond := [Cond.fieldLink RX6 13 "ThirdOfTheLastModel" "dishMany" "[I", Cond.fieldLink RX6 38 "ThirdOfTheLastModel" "keptMany" "[I", Cond.fieldLink RX6 17 "ThirdOfTheLastModel" "kinds" "[I", Cond.fieldLink RX6 41 "ThirdOfTheLastModel" "keptKinds" "[I", Cond.fieldLink RX6 20 "ThirdOfTheLastModel" "figures" "[I", Cond.fieldLink RX6 44 "ThirdOfTheLastModel" "keptFigures" "[I", Cond.methodLink RX6 118 yX6_copyLongs, Cond.static yX6_copyLongs, Cond.code yX6_copyLongs cX6_copyLongs 3 none, Cond.methodLink RX6 122 yX6_copyInts, Cond.static yX6_copyInts, Cond.code yX6_copyInts cX6_copyInts 4 none, Cond.methodLink RX6 184 yX6_comes, Cond.instanceMethod yX6_comes, Cond.selects RX6 yX6_comes yX6_comes, Cond.code yX6_comes cX6_comes 5 (some .boolean), Cond.methodLink RX6 159 yX6_empty, Cond.instanceMethod yX6_empty, Cond.selects RX6 yX6_empty yX6_empty, Cond.code yX6_empty cX6_empty 3 none, Cond.methodLink RX6 163 yX6_isPot, Cond.instanceMethod yX6_isPot, Cond.selects RX6 yX6_isPot yX6_isPot, Cond.code yX6_isPot cX6_isPot 2 (some .boolean)]
def wsX6_kitchen_r4 : List Cond := [Cond.methodLink RX6 167 yX6_cooks, Cond.instanceMethod yX6_cooks, Cond.selects RX6 yX6_cooks yX6_cooks, Cond.code yX6_cooks cX6_cooks 5 (some .boolean), Cond.methodLink RX6 102 yX6_becomes, Cond.instanceMethod yX6_becomes, Cond.selects RX6 yX6_becomes yX6_becomes, Cond.code yX6_becomes cX6_becomes 8 none, Cond.methodLink RX6 90 yX6_nine, Cond.static yX6_nine, Cond.code yX6_nine cX6_nine 4 (some .long), Cond.constantLong RX6 88 (9), Cond.methodLink RX6 94 yX6_ownOf, Cond.static yX6_ownOf, Cond.code yX6_ownOf cX6_ownOf 4 (some .int), Cond.methodLink RX6 98 yX6_keepsOf, Cond.static yX6_keepsOf, Cond.code yX6_keepsOf cX6_keepsOf 1 (some .int), Cond.methodLink RX6 170 yX6_same, Cond.instanceMethod yX6_same, Cond.selects RX6 yX6_same yX6_same, Cond.code yX6_same cX6_same 4 none, Cond.methodLink RX6 187 yX6_close, Cond.instanceMethod yX6_close]
def wsX6_kitchen_r5 : List Cond := [Cond.selects RX6 yX6_close yX6_close, Cond.code yX6_close cX6_close 1 none]
def wsX6_kitchen : List Cond := .code yX6_kitchen cX6_kitchen 4 (some .int) :: ((wsX6_kitchen_r1 ++ (wsX6_kitchen_r2 ++ (wsX6_kitchen_r3 ++ (wsX6_kitchen_r4 ++ wsX6_kitchen_r5)))) ++ wsX60)
def wsX6_pot : List Cond := .code yX6_pot cX6_pot 1 (some .int) :: ([.fieldLink RX6 77 "ThirdOfTheLastModel" "thrown" "I", .fieldLink RX6 81 "ThirdOfTheLastModel" "pots" "I", .methodLink RX6 159 yX6_empty, .instanceMethod yX6_empty, .selects RX6 yX6_empty yX6_empty, .initialized RX6, .code yX6_empty cX6_empty 3 none, .fieldLink RX6 13 "ThirdOfTheLastModel" "dishMany" "[I", .fieldLink RX6 7 "ThirdOfTheLastModel" "tastes" "[J"] ++ wsX60)
def wsX6_wrongDish : List Cond := .code yX6_wrongDish cX6_wrongDish 2 (some .int) :: ([.constantLong RX6 190 (7), .fieldLink RX6 56 "ThirdOfTheLastModel" "holdsWhat" "[I", .methodLink RX6 84 yX6_in, .static yX6_in, .initialized RX6, .code yX6_in cX6_in 6 (some .boolean)] ++ wsX60)
def wsX6_cook_r1 : List Cond := [Cond.fieldLink RX6 77 "ThirdOfTheLastModel" "thrown" "I", Cond.fieldLink RX6 59 "ThirdOfTheLastModel" "dishKind" "[I", Cond.fieldLink RX6 62 "ThirdOfTheLastModel" "dishFigure" "[I", Cond.fieldLink RX6 13 "ThirdOfTheLastModel" "dishMany" "[I", Cond.methodLink RX6 163 yX6_isPot, Cond.instanceMethod yX6_isPot, Cond.selects RX6 yX6_isPot yX6_isPot, Cond.initialized RX6, Cond.code yX6_isPot cX6_isPot 2 (some .boolean), Cond.fieldLink RX6 81 "ThirdOfTheLastModel" "pots" "I", Cond.methodLink RX6 84 yX6_in, Cond.static yX6_in, Cond.code yX6_in cX6_in 6 (some .boolean), Cond.methodLink RX6 192 yX6_wrongDish, Cond.instanceMethod yX6_wrongDish, Cond.selects RX6 yX6_wrongDish yX6_wrongDish, Cond.code yX6_wrongDish cX6_wrongDish 2 (some .int), Cond.constantLong RX6 190 (7), Cond.fieldLink RX6 56 "ThirdOfTheLastModel" "holdsWhat" "[I", Cond.methodLink RX6 167 yX6_cooks, Cond.instanceMethod yX6_cooks, Cond.selects RX6 yX6_cooks yX6_cooks, Cond.code yX6_cooks cX6_cooks 5 (some .boolean), Cond.methodLink RX6 102 yX6_becomes]
def wsX6_cook_r2 : List Cond := [Cond.instanceMethod yX6_becomes, Cond.selects RX6 yX6_becomes yX6_becomes, Cond.code yX6_becomes cX6_becomes 8 none, Cond.fieldLink RX6 7 "ThirdOfTheLastModel" "tastes" "[J", Cond.fieldLink RX6 17 "ThirdOfTheLastModel" "kinds" "[I", Cond.fieldLink RX6 20 "ThirdOfTheLastModel" "figures" "[I", Cond.methodLink RX6 90 yX6_nine, Cond.static yX6_nine, Cond.code yX6_nine cX6_nine 4 (some .long), Cond.constantLong RX6 88 (9), Cond.methodLink RX6 94 yX6_ownOf, Cond.static yX6_ownOf, Cond.code yX6_ownOf cX6_ownOf 4 (some .int), Cond.methodLink RX6 98 yX6_keepsOf, Cond.static yX6_keepsOf, Cond.code yX6_keepsOf cX6_keepsOf 1 (some .int)]
def wsX6_cook : List Cond := .code yX6_cook cX6_cook 4 (some .int) :: ((wsX6_cook_r1 ++ wsX6_cook_r2) ++ wsX60)
def wsX6_dish : List Cond := .code yX6_dish cX6_dish 5 (some .int) :: ([.fieldLink RX6 77 "ThirdOfTheLastModel" "thrown" "I", .fieldLink RX6 13 "ThirdOfTheLastModel" "dishMany" "[I", .fieldLink RX6 17 "ThirdOfTheLastModel" "kinds" "[I", .fieldLink RX6 20 "ThirdOfTheLastModel" "figures" "[I", .methodLink RX6 163 yX6_isPot, .instanceMethod yX6_isPot, .selects RX6 yX6_isPot yX6_isPot, .initialized RX6, .code yX6_isPot cX6_isPot 2 (some .boolean), .fieldLink RX6 81 "ThirdOfTheLastModel" "pots" "I", .methodLink RX6 84 yX6_in, .static yX6_in, .code yX6_in cX6_in 6 (some .boolean)] ++ wsX60)
def wsX6_dishes : List Cond := .code yX6_dishes cX6_dishes 2 (some .int) :: ([.fieldLink RX6 77 "ThirdOfTheLastModel" "thrown" "I", .fieldLink RX6 13 "ThirdOfTheLastModel" "dishMany" "[I", .methodLink RX6 163 yX6_isPot, .instanceMethod yX6_isPot, .selects RX6 yX6_isPot yX6_isPot, .initialized RX6, .code yX6_isPot cX6_isPot 2 (some .boolean), .fieldLink RX6 81 "ThirdOfTheLastModel" "pots" "I", .methodLink RX6 84 yX6_in, .static yX6_in, .code yX6_in cX6_in 6 (some .boolean)] ++ wsX60)
def wsX6_least : List Cond := .code yX6_least cX6_least 11 (some .long) :: ([])
def wsX6_taste : List Cond := .code yX6_taste cX6_taste 4 (some .long) :: ([.fieldLink RX6 77 "ThirdOfTheLastModel" "thrown" "I", .constantLong RX6 195 (3), .constantLong RX6 197 (-1000000001), .fieldLink RX6 7 "ThirdOfTheLastModel" "tastes" "[J", .fieldLink RX6 13 "ThirdOfTheLastModel" "dishMany" "[I", .methodLink RX6 163 yX6_isPot, .instanceMethod yX6_isPot, .selects RX6 yX6_isPot yX6_isPot, .initialized RX6, .code yX6_isPot cX6_isPot 2 (some .boolean), .fieldLink RX6 81 "ThirdOfTheLastModel" "pots" "I", .methodLink RX6 84 yX6_in, .static yX6_in, .code yX6_in cX6_in 6 (some .boolean), .methodLink RX6 90 yX6_nine, .static yX6_nine, .code yX6_nine cX6_nine 4 (some .long), .constantLong RX6 88 (9), .methodLink RX6 199 yX6_least, .static yX6_least, .code yX6_least cX6_least 11 (some .long)] ++ wsX60)
def wsX6_all : List Cond := .code yX6_all cX6_all 3 (some .long) :: ([.fieldLink RX6 77 "ThirdOfTheLastModel" "thrown" "I", .constantLong RX6 197 (-1000000001), .fieldLink RX6 13 "ThirdOfTheLastModel" "dishMany" "[I", .methodLink RX6 163 yX6_isPot, .instanceMethod yX6_isPot, .selects RX6 yX6_isPot yX6_isPot, .initialized RX6, .code yX6_isPot cX6_isPot 2 (some .boolean), .fieldLink RX6 81 "ThirdOfTheLastModel" "pots" "I", .methodLink RX6 84 yX6_in, .static yX6_in, .code yX6_in cX6_in 6 (some .boolean), .methodLink RX6 106 yX6_allOf, .instanceMethod yX6_allOf, .selects RX6 yX6_allOf yX6_allOf, .code yX6_allOf cX6_allOf 5 (some .long), .fieldLink RX6 7 "ThirdOfTheLastModel" "tastes" "[J", .methodLink RX6 90 yX6_nine, .static yX6_nine, .code yX6_nine cX6_nine 4 (some .long), .constantLong RX6 88 (9), .methodLink RX6 199 yX6_least, .static yX6_least, .code yX6_least cX6_least 11 (some .long)] ++ wsX60)
def wsX6_portion : List Cond := .code yX6_portion cX6_portion 3 (some .int) :: ([.fieldLink RX6 77 "ThirdOfTheLastModel" "thrown" "I", .constantLong RX6 195 (3), .methodLink RX6 163 yX6_isPot, .instanceMethod yX6_isPot, .selects RX6 yX6_isPot yX6_isPot, .initialized RX6, .code yX6_isPot cX6_isPot 2 (some .boolean), .fieldLink RX6 81 "ThirdOfTheLastModel" "pots" "I", .methodLink RX6 84 yX6_in, .static yX6_in, .code yX6_in cX6_in 6 (some .boolean), .methodLink RX6 203 yX6_portionOf, .instanceMethod yX6_portionOf, .selects RX6 yX6_portionOf yX6_portionOf, .code yX6_portionOf cX6_portionOf 5 (some .int), .constantLong RX6 109 (100), .fieldLink RX6 7 "ThirdOfTheLastModel" "tastes" "[J", .methodLink RX6 106 yX6_allOf, .instanceMethod yX6_allOf, .selects RX6 yX6_allOf yX6_allOf, .code yX6_allOf cX6_allOf 5 (some .long)] ++ wsX60)
def wsX6_over : List Cond := .code yX6_over cX6_over 4 (some .int) :: ([.fieldLink RX6 77 "ThirdOfTheLastModel" "thrown" "I", .constantLong RX6 195 (3), .constantLong RX6 109 (100), .methodLink RX6 163 yX6_isPot, .instanceMethod yX6_isPot, .selects RX6 yX6_isPot yX6_isPot, .initialized RX6, .code yX6_isPot cX6_isPot 2 (some .boolean), .fieldLink RX6 81 "ThirdOfTheLastModel" "pots" "I", .methodLink RX6 84 yX6_in, .static yX6_in, .code yX6_in cX6_in 6 (some .boolean), .methodLink RX6 111 yX6_isOver, .instanceMethod yX6_isOver, .selects RX6 yX6_isOver yX6_isOver, .code yX6_isOver cX6_isOver 4 (some .boolean), .fieldLink RX6 7 "ThirdOfTheLastModel" "tastes" "[J", .methodLink RX6 106 yX6_allOf, .instanceMethod yX6_allOf, .selects RX6 yX6_allOf yX6_allOf, .code yX6_allOf cX6_allOf 5 (some .long)] ++ wsX60)
def wsX6_partOf : List Cond := .code yX6_partOf cX6_partOf 6 (some .long) :: ([.fieldLink RX6 17 "ThirdOfTheLastModel" "kinds" "[I", .fieldLink RX6 13 "ThirdOfTheLastModel" "dishMany" "[I", .methodLink RX6 98 yX6_keepsOf, .static yX6_keepsOf, .initialized RX6, .code yX6_keepsOf cX6_keepsOf 1 (some .int)] ++ wsX60)
def wsX6_part_r1 : List Cond := [Cond.fieldLink RX6 77 "ThirdOfTheLastModel" "thrown" "I", Cond.fieldLink RX6 13 "ThirdOfTheLastModel" "dishMany" "[I", Cond.constantLong RX6 197 (-1000000001), Cond.methodLink RX6 163 yX6_isPot, Cond.instanceMethod yX6_isPot, Cond.selects RX6 yX6_isPot yX6_isPot, Cond.initialized RX6, Cond.code yX6_isPot cX6_isPot 2 (some .boolean), Cond.fieldLink RX6 81 "ThirdOfTheLastModel" "pots" "I", Cond.methodLink RX6 84 yX6_in, Cond.static yX6_in, Cond.code yX6_in cX6_in 6 (some .boolean), Cond.methodLink RX6 206 yX6_partOf, Cond.instanceMethod yX6_partOf, Cond.selects RX6 yX6_partOf yX6_partOf, Cond.code yX6_partOf cX6_partOf 6 (some .long), Cond.fieldLink RX6 17 "ThirdOfTheLastModel" "kinds" "[I", Cond.methodLink RX6 98 yX6_keepsOf, Cond.static yX6_keepsOf, Cond.code yX6_keepsOf cX6_keepsOf 1 (some .int), Cond.methodLink RX6 90 yX6_nine, Cond.static yX6_nine, Cond.code yX6_nine cX6_nine 4 (some .long), Cond.constantLong RX6 88 (9)]
def wsX6_part_r2 : List Cond := [Cond.methodLink RX6 199 yX6_least, Cond.static yX6_least, Cond.code yX6_least cX6_least 11 (some .long)]
def wsX6_part : List Cond := .code yX6_part cX6_part 4 (some .long) :: ((wsX6_part_r1 ++ wsX6_part_r2) ++ wsX60)
def wsX6_back : List Cond := .code yX6_back cX6_back 4 (some .int) :: ([.fieldLink RX6 77 "ThirdOfTheLastModel" "thrown" "I", .constantLong RX6 109 (100), .fieldLink RX6 13 "ThirdOfTheLastModel" "dishMany" "[I", .methodLink RX6 163 yX6_isPot, .instanceMethod yX6_isPot, .selects RX6 yX6_isPot yX6_isPot, .initialized RX6, .code yX6_isPot cX6_isPot 2 (some .boolean), .fieldLink RX6 81 "ThirdOfTheLastModel" "pots" "I", .methodLink RX6 84 yX6_in, .static yX6_in, .code yX6_in cX6_in 6 (some .boolean), .methodLink RX6 206 yX6_partOf, .instanceMethod yX6_partOf, .selects RX6 yX6_partOf yX6_partOf, .code yX6_partOf cX6_partOf 6 (some .long), .fieldLink RX6 17 "ThirdOfTheLastModel" "kinds" "[I", .methodLink RX6 98 yX6_keepsOf, .static yX6_keepsOf, .code yX6_keepsOf cX6_keepsOf 1 (some .int), .methodLink RX6 90 yX6_nine, .static yX6_nine, .code yX6_nine cX6_nine 4 (some .long), .constantLong RX6 88 (9)] ++ wsX60)
def wsX6_strongest : List Cond := .code yX6_strongest cX6_strongest 4 (some .int) :: ([.fieldLink RX6 77 "ThirdOfTheLastModel" "thrown" "I", .fieldLink RX6 7 "ThirdOfTheLastModel" "tastes" "[J", .methodLink RX6 163 yX6_isPot, .instanceMethod yX6_isPot, .selects RX6 yX6_isPot yX6_isPot, .initialized RX6, .code yX6_isPot cX6_isPot 2 (some .boolean), .fieldLink RX6 81 "ThirdOfTheLastModel" "pots" "I", .methodLink RX6 84 yX6_in, .static yX6_in, .code yX6_in cX6_in 6 (some .boolean), .methodLink RX6 106 yX6_allOf, .instanceMethod yX6_allOf, .selects RX6 yX6_allOf yX6_allOf, .code yX6_allOf cX6_allOf 5 (some .long)] ++ wsX60)
def wsX6_isLine : List Cond := .code yX6_isLine cX6_isLine 2 (some .boolean) :: ([.constantLong RX6 210 (15), .constantLong RX6 109 (100), .methodLink RX6 84 yX6_in, .static yX6_in, .initialized RX6, .code yX6_in cX6_in 6 (some .boolean)])
def wsX6_harms_r1 : List Cond := [Cond.fieldLink RX6 77 "ThirdOfTheLastModel" "thrown" "I", Cond.methodLink RX6 163 yX6_isPot, Cond.instanceMethod yX6_isPot, Cond.selects RX6 yX6_isPot yX6_isPot, Cond.initialized RX6, Cond.code yX6_isPot cX6_isPot 2 (some .boolean), Cond.fieldLink RX6 81 "ThirdOfTheLastModel" "pots" "I", Cond.methodLink RX6 84 yX6_in, Cond.static yX6_in, Cond.code yX6_in cX6_in 6 (some .boolean), Cond.methodLink RX6 212 yX6_isLine, Cond.static yX6_isLine, Cond.code yX6_isLine cX6_isLine 2 (some .boolean), Cond.constantLong RX6 210 (15), Cond.constantLong RX6 109 (100), Cond.methodLink RX6 216 yX6_doesHarm, Cond.instanceMethod yX6_doesHarm, Cond.selects RX6 yX6_doesHarm yX6_doesHarm, Cond.code yX6_doesHarm cX6_doesHarm 6 (some .boolean), Cond.methodLink RX6 111 yX6_isOver, Cond.instanceMethod yX6_isOver, Cond.selects RX6 yX6_isOver yX6_isOver, Cond.code yX6_isOver cX6_isOver 4 (some .boolean), Cond.fieldLink RX6 7 "ThirdOfTheLastModel" "tastes" "[J"]
def wsX6_harms_r2 : List Cond := [Cond.methodLink RX6 106 yX6_allOf, Cond.instanceMethod yX6_allOf, Cond.selects RX6 yX6_allOf yX6_allOf, Cond.code yX6_allOf cX6_allOf 5 (some .long)]
def wsX6_harms : List Cond := .code yX6_harms cX6_harms 4 (some .int) :: ((wsX6_harms_r1 ++ wsX6_harms_r2) ++ wsX60)
def wsX6_wrongDishes : List Cond := .code yX6_wrongDishes cX6_wrongDishes 8 (some .int) :: ([.fieldLink RX6 68 "ThirdOfTheLastModel" "rowMany" "[I", .fieldLink RX6 71 "ThirdOfTheLastModel" "rows" "[J", .constantLong RX6 88 (9), .constantLong RX6 190 (7), .fieldLink RX6 81 "ThirdOfTheLastModel" "pots" "I", .methodLink RX6 174 yX6_wrongSort, .instanceMethod yX6_wrongSort, .selects RX6 yX6_wrongSort yX6_wrongSort, .initialized RX6, .code yX6_wrongSort cX6_wrongSort 3 (some .int), .fieldLink RX6 65 "ThirdOfTheLastModel" "rowSort" "[I", .methodLink RX6 255 yX6_wrongRow, .instanceMethod yX6_wrongRow, .selects RX6 yX6_wrongRow yX6_wrongRow, .code yX6_wrongRow cX6_wrongRow 2 (some .int), .fieldLink RX6 56 "ThirdOfTheLastModel" "holdsWhat" "[I", .methodLink RX6 84 yX6_in, .static yX6_in, .code yX6_in cX6_in 6 (some .boolean)] ++ wsX60)
def wsX6_element0 : List Cond := .code yX6_element0 cX6_element0 3 (some .int) :: ([.fieldLink RX6 71 "ThirdOfTheLastModel" "rows" "[J"] ++ wsX60)
def wsX6_first_r1 : List Cond := [Cond.fieldLink RX6 77 "ThirdOfTheLastModel" "thrown" "I", Cond.fieldLink RX6 68 "ThirdOfTheLastModel" "rowMany" "[I", Cond.methodLink RX6 212 yX6_isLine, Cond.static yX6_isLine, Cond.initialized RX6, Cond.code yX6_isLine cX6_isLine 2 (some .boolean), Cond.constantLong RX6 210 (15), Cond.constantLong RX6 109 (100), Cond.methodLink RX6 84 yX6_in, Cond.static yX6_in, Cond.code yX6_in cX6_in 6 (some .boolean), Cond.methodLink RX6 219 yX6_wrongDishes, Cond.instanceMethod yX6_wrongDishes, Cond.selects RX6 yX6_wrongDishes yX6_wrongDishes, Cond.code yX6_wrongDishes cX6_wrongDishes 8 (some .int), Cond.fieldLink RX6 71 "ThirdOfTheLastModel" "rows" "[J", Cond.constantLong RX6 88 (9), Cond.constantLong RX6 190 (7), Cond.fieldLink RX6 81 "ThirdOfTheLastModel" "pots" "I", Cond.methodLink RX6 174 yX6_wrongSort, Cond.instanceMethod yX6_wrongSort, Cond.selects RX6 yX6_wrongSort yX6_wrongSort, Cond.code yX6_wrongSort cX6_wrongSort 3 (some .int), Cond.fieldLink RX6 65 "ThirdOfTheLastModel" "rowSort" "[I"]
def wsX6_first_r2 : List Cond := [Cond.methodLink RX6 255 yX6_wrongRow, Cond.instanceMethod yX6_wrongRow, Cond.selects RX6 yX6_wrongRow yX6_wrongRow, Cond.code yX6_wrongRow cX6_wrongRow 2 (some .int), Cond.fieldLink RX6 56 "ThirdOfTheLastModel" "holdsWhat" "[I", Cond.methodLink RX6 181 yX6_open, Cond.instanceMethod yX6_open, Cond.selects RX6 yX6_open yX6_open, Cond.code yX6_open cX6_open 1 none, Cond.fieldLink RX6 115 "ThirdOfTheLastModel" "keptPots" "I", Cond.fieldLink RX6 7 "ThirdOfTheLastModel" "tastes" "[J", Cond.fieldLink RX6 35 "ThirdOfTheLastModel" "keptTastes" "[J", Cond.fieldLink RX6 13 "ThirdOfTheLastModel" "dishMany" "[I", Cond.fieldLink RX6 38 "ThirdOfTheLastModel" "keptMany" "[I", Cond.fieldLink RX6 17 "ThirdOfTheLastModel" "kinds" "[I", Cond.fieldLink RX6 41 "ThirdOfTheLastModel" "keptKinds" "[I", Cond.fieldLink RX6 20 "ThirdOfTheLastModel" "figures" "[I", Cond.fieldLink RX6 44 "ThirdOfTheLastModel" "keptFigures" "[I", Cond.methodLink RX6 118 yX6_copyLongs, Cond.static yX6_copyLongs, Cond.code yX6_copyLongs cX6_copyLongs 3 none, Cond.methodLink RX6 122 yX6_copyInts, Cond.static yX6_copyInts, Cond.code yX6_copyInts cX6_copyInts 4 none]
def wsX6_first_r3 : List Cond := [Cond.methodLink RX6 222 yX6_element0, Cond.instanceMethod yX6_element0, Cond.selects RX6 yX6_element0 yX6_element0, Cond.code yX6_element0 cX6_element0 3 (some .int), Cond.methodLink RX6 167 yX6_cooks, Cond.instanceMethod yX6_cooks, Cond.selects RX6 yX6_cooks yX6_cooks, Cond.code yX6_cooks cX6_cooks 5 (some .boolean), Cond.methodLink RX6 102 yX6_becomes, Cond.instanceMethod yX6_becomes, Cond.selects RX6 yX6_becomes yX6_becomes, Cond.code yX6_becomes cX6_becomes 8 none, Cond.methodLink RX6 90 yX6_nine, Cond.static yX6_nine, Cond.code yX6_nine cX6_nine 4 (some .long), Cond.methodLink RX6 94 yX6_ownOf, Cond.static yX6_ownOf, Cond.code yX6_ownOf cX6_ownOf 4 (some .int), Cond.methodLink RX6 98 yX6_keepsOf, Cond.static yX6_keepsOf, Cond.code yX6_keepsOf cX6_keepsOf 1 (some .int), Cond.methodLink RX6 216 yX6_doesHarm, Cond.instanceMethod yX6_doesHarm, Cond.selects RX6 yX6_doesHarm yX6_doesHarm]
def wsX6_first_r4 : List Cond := [Cond.code yX6_doesHarm cX6_doesHarm 6 (some .boolean), Cond.methodLink RX6 111 yX6_isOver, Cond.instanceMethod yX6_isOver, Cond.selects RX6 yX6_isOver yX6_isOver, Cond.code yX6_isOver cX6_isOver 4 (some .boolean), Cond.methodLink RX6 106 yX6_allOf, Cond.instanceMethod yX6_allOf, Cond.selects RX6 yX6_allOf yX6_allOf, Cond.code yX6_allOf cX6_allOf 5 (some .long), Cond.methodLink RX6 187 yX6_close, Cond.instanceMethod yX6_close, Cond.selects RX6 yX6_close yX6_close, Cond.code yX6_close cX6_close 1 none]
def wsX6_first : List Cond := .code yX6_first cX6_first 9 (some .int) :: ((wsX6_first_r1 ++ (wsX6_first_r2 ++ (wsX6_first_r3 ++ wsX6_first_r4))) ++ wsX60)
def wsX6_power : List Cond := .code yX6_power cX6_power 4 (some .int) :: ([])
def wsX6_week_r1 : List Cond := [Cond.fieldLink RX6 77 "ThirdOfTheLastModel" "thrown" "I", Cond.constantLong RX6 190 (7), Cond.fieldLink RX6 81 "ThirdOfTheLastModel" "pots" "I", Cond.fieldLink RX6 68 "ThirdOfTheLastModel" "rowMany" "[I", Cond.methodLink RX6 84 yX6_in, Cond.static yX6_in, Cond.initialized RX6, Cond.code yX6_in cX6_in 6 (some .boolean), Cond.methodLink RX6 212 yX6_isLine, Cond.static yX6_isLine, Cond.code yX6_isLine cX6_isLine 2 (some .boolean), Cond.constantLong RX6 210 (15), Cond.constantLong RX6 109 (100), Cond.methodLink RX6 219 yX6_wrongDishes, Cond.instanceMethod yX6_wrongDishes, Cond.selects RX6 yX6_wrongDishes yX6_wrongDishes, Cond.code yX6_wrongDishes cX6_wrongDishes 8 (some .int), Cond.fieldLink RX6 71 "ThirdOfTheLastModel" "rows" "[J", Cond.constantLong RX6 88 (9), Cond.methodLink RX6 174 yX6_wrongSort, Cond.instanceMethod yX6_wrongSort, Cond.selects RX6 yX6_wrongSort yX6_wrongSort, Cond.code yX6_wrongSort cX6_wrongSort 3 (some .int), Cond.fieldLink RX6 65 "ThirdOfTheLastModel" "rowSort" "[I"]
def wsX6_week_r2 : List Cond := [Cond.methodLink RX6 255 yX6_wrongRow, Cond.instanceMethod yX6_wrongRow, Cond.selects RX6 yX6_wrongRow yX6_wrongRow, Cond.code yX6_wrongRow cX6_wrongRow 2 (some .int), Cond.fieldLink RX6 56 "ThirdOfTheLastModel" "holdsWhat" "[I", Cond.methodLink RX6 225 yX6_power, Cond.static yX6_power, Cond.code yX6_power cX6_power 4 (some .int), Cond.methodLink RX6 181 yX6_open, Cond.instanceMethod yX6_open, Cond.selects RX6 yX6_open yX6_open, Cond.code yX6_open cX6_open 1 none, Cond.fieldLink RX6 115 "ThirdOfTheLastModel" "keptPots" "I", Cond.fieldLink RX6 7 "ThirdOfTheLastModel" "tastes" "[J", Cond.fieldLink RX6 35 "ThirdOfTheLastModel" "keptTastes" "[J", Cond.fieldLink RX6 13 "ThirdOfTheLastModel" "dishMany" "[I", Cond.fieldLink RX6 38 "ThirdOfTheLastModel" "keptMany" "[I", Cond.fieldLink RX6 17 "ThirdOfTheLastModel" "kinds" "[I", Cond.fieldLink RX6 41 "ThirdOfTheLastModel" "keptKinds" "[I", Cond.fieldLink RX6 20 "ThirdOfTheLastModel" "figures" "[I", Cond.fieldLink RX6 44 "ThirdOfTheLastModel" "keptFigures" "[I", Cond.methodLink RX6 118 yX6_copyLongs, Cond.static yX6_copyLongs, Cond.code yX6_copyLongs cX6_copyLongs 3 none]
def wsX6_week_r3 : List Cond := [Cond.methodLink RX6 122 yX6_copyInts, Cond.static yX6_copyInts, Cond.code yX6_copyInts cX6_copyInts 4 none, Cond.methodLink RX6 222 yX6_element0, Cond.instanceMethod yX6_element0, Cond.selects RX6 yX6_element0 yX6_element0, Cond.code yX6_element0 cX6_element0 3 (some .int), Cond.methodLink RX6 167 yX6_cooks, Cond.instanceMethod yX6_cooks, Cond.selects RX6 yX6_cooks yX6_cooks, Cond.code yX6_cooks cX6_cooks 5 (some .boolean), Cond.methodLink RX6 102 yX6_becomes, Cond.instanceMethod yX6_becomes, Cond.selects RX6 yX6_becomes yX6_becomes, Cond.code yX6_becomes cX6_becomes 8 none, Cond.methodLink RX6 90 yX6_nine, Cond.static yX6_nine, Cond.code yX6_nine cX6_nine 4 (some .long), Cond.methodLink RX6 94 yX6_ownOf, Cond.static yX6_ownOf, Cond.code yX6_ownOf cX6_ownOf 4 (some .int), Cond.methodLink RX6 98 yX6_keepsOf, Cond.static yX6_keepsOf, Cond.code yX6_keepsOf cX6_keepsOf 1 (some .int)]
def wsX6_week_r4 : List Cond := [Cond.methodLink RX6 216 yX6_doesHarm, Cond.instanceMethod yX6_doesHarm, Cond.selects RX6 yX6_doesHarm yX6_doesHarm, Cond.code yX6_doesHarm cX6_doesHarm 6 (some .boolean), Cond.methodLink RX6 111 yX6_isOver, Cond.instanceMethod yX6_isOver, Cond.selects RX6 yX6_isOver yX6_isOver, Cond.code yX6_isOver cX6_isOver 4 (some .boolean), Cond.methodLink RX6 106 yX6_allOf, Cond.instanceMethod yX6_allOf, Cond.selects RX6 yX6_allOf yX6_allOf, Cond.code yX6_allOf cX6_allOf 5 (some .long), Cond.methodLink RX6 187 yX6_close, Cond.instanceMethod yX6_close, Cond.selects RX6 yX6_close yX6_close, Cond.code yX6_close cX6_close 1 none]
def wsX6_week : List Cond := .code yX6_week cX6_week 15 (some .int) :: ((wsX6_week_r1 ++ (wsX6_week_r2 ++ (wsX6_week_r3 ++ wsX6_week_r4))) ++ wsX60)
def wsX6_cooksCode_r1 : List Cond := [Cond.methodLink RX6 225 yX6_power, Cond.static yX6_power, Cond.initialized RX6, Cond.code yX6_power cX6_power 4 (some .int), Cond.methodLink RX6 167 yX6_cooks, Cond.instanceMethod yX6_cooks, Cond.selects RX6 yX6_cooks yX6_cooks, Cond.code yX6_cooks cX6_cooks 5 (some .boolean), Cond.fieldLink RX6 13 "ThirdOfTheLastModel" "dishMany" "[I", Cond.methodLink RX6 102 yX6_becomes, Cond.instanceMethod yX6_becomes, Cond.selects RX6 yX6_becomes yX6_becomes, Cond.code yX6_becomes cX6_becomes 8 none, Cond.fieldLink RX6 7 "ThirdOfTheLastModel" "tastes" "[J", Cond.fieldLink RX6 17 "ThirdOfTheLastModel" "kinds" "[I", Cond.fieldLink RX6 20 "ThirdOfTheLastModel" "figures" "[I", Cond.methodLink RX6 90 yX6_nine, Cond.static yX6_nine, Cond.code yX6_nine cX6_nine 4 (some .long), Cond.constantLong RX6 88 (9), Cond.methodLink RX6 94 yX6_ownOf, Cond.static yX6_ownOf, Cond.code yX6_ownOf cX6_ownOf 4 (some .int), Cond.methodLink RX6 98 yX6_keepsOf]
def wsX6_cooksCode_r2 : List Cond := [Cond.static yX6_keepsOf, Cond.code yX6_keepsOf cX6_keepsOf 1 (some .int)]
def wsX6_cooksCode : List Cond := .code yX6_cooksCode cX6_cooksCode 7 (some .boolean) :: ((wsX6_cooksCode_r1 ++ wsX6_cooksCode_r2) ++ wsX60)
def wsX6_bring_r1 : List Cond := [Cond.fieldLink RX6 77 "ThirdOfTheLastModel" "thrown" "I", Cond.constantLong RX6 195 (3), Cond.constantLong RX6 109 (100), Cond.constantLong RX6 88 (9), Cond.methodLink RX6 163 yX6_isPot, Cond.instanceMethod yX6_isPot, Cond.selects RX6 yX6_isPot yX6_isPot, Cond.initialized RX6, Cond.code yX6_isPot cX6_isPot 2 (some .boolean), Cond.fieldLink RX6 81 "ThirdOfTheLastModel" "pots" "I", Cond.methodLink RX6 84 yX6_in, Cond.static yX6_in, Cond.code yX6_in cX6_in 6 (some .boolean), Cond.methodLink RX6 225 yX6_power, Cond.static yX6_power, Cond.code yX6_power cX6_power 4 (some .int), Cond.methodLink RX6 170 yX6_same, Cond.instanceMethod yX6_same, Cond.selects RX6 yX6_same yX6_same, Cond.code yX6_same cX6_same 4 none, Cond.fieldLink RX6 13 "ThirdOfTheLastModel" "dishMany" "[I", Cond.fieldLink RX6 7 "ThirdOfTheLastModel" "tastes" "[J", Cond.fieldLink RX6 17 "ThirdOfTheLastModel" "kinds" "[I", Cond.fieldLink RX6 20 "ThirdOfTheLastModel" "figures" "[I"]
def wsX6_bring_r2 : List Cond := [Cond.methodLink RX6 228 yX6_cooksCode, Cond.instanceMethod yX6_cooksCode, Cond.selects RX6 yX6_cooksCode yX6_cooksCode, Cond.code yX6_cooksCode cX6_cooksCode 7 (some .boolean), Cond.methodLink RX6 167 yX6_cooks, Cond.instanceMethod yX6_cooks, Cond.selects RX6 yX6_cooks yX6_cooks, Cond.code yX6_cooks cX6_cooks 5 (some .boolean), Cond.methodLink RX6 102 yX6_becomes, Cond.instanceMethod yX6_becomes, Cond.selects RX6 yX6_becomes yX6_becomes, Cond.code yX6_becomes cX6_becomes 8 none, Cond.methodLink RX6 90 yX6_nine, Cond.static yX6_nine, Cond.code yX6_nine cX6_nine 4 (some .long), Cond.methodLink RX6 94 yX6_ownOf, Cond.static yX6_ownOf, Cond.code yX6_ownOf cX6_ownOf 4 (some .int), Cond.methodLink RX6 98 yX6_keepsOf, Cond.static yX6_keepsOf, Cond.code yX6_keepsOf cX6_keepsOf 1 (some .int), Cond.methodLink RX6 111 yX6_isOver, Cond.instanceMethod yX6_isOver, Cond.selects RX6 yX6_isOver yX6_isOver]
def wsX6_bring_r3 : List Cond := [Cond.code yX6_isOver cX6_isOver 4 (some .boolean), Cond.methodLink RX6 106 yX6_allOf, Cond.instanceMethod yX6_allOf, Cond.selects RX6 yX6_allOf yX6_allOf, Cond.code yX6_allOf cX6_allOf 5 (some .long)]
def wsX6_bring : List Cond := .code yX6_bring cX6_bring 8 (some .int) :: ((wsX6_bring_r1 ++ (wsX6_bring_r2 ++ wsX6_bring_r3)) ++ wsX60)
def wsX6_digitsOf : List Cond := .code yX6_digitsOf cX6_digitsOf 5 (some .int) :: ([.methodLink RX6 225 yX6_power, .static yX6_power, .initialized RX6, .code yX6_power cX6_power 4 (some .int)])
def wsX6_mayHave_r1 : List Cond := [Cond.fieldLink RX6 77 "ThirdOfTheLastModel" "thrown" "I", Cond.constantLong RX6 195 (3), Cond.constantLong RX6 88 (9), Cond.fieldLink RX6 7 "ThirdOfTheLastModel" "tastes" "[J", Cond.fieldLink RX6 13 "ThirdOfTheLastModel" "dishMany" "[I", Cond.methodLink RX6 163 yX6_isPot, Cond.instanceMethod yX6_isPot, Cond.selects RX6 yX6_isPot yX6_isPot, Cond.initialized RX6, Cond.code yX6_isPot cX6_isPot 2 (some .boolean), Cond.fieldLink RX6 81 "ThirdOfTheLastModel" "pots" "I", Cond.methodLink RX6 84 yX6_in, Cond.static yX6_in, Cond.code yX6_in cX6_in 6 (some .boolean), Cond.methodLink RX6 225 yX6_power, Cond.static yX6_power, Cond.code yX6_power cX6_power 4 (some .int), Cond.methodLink RX6 159 yX6_empty, Cond.instanceMethod yX6_empty, Cond.selects RX6 yX6_empty yX6_empty, Cond.code yX6_empty cX6_empty 3 none, Cond.methodLink RX6 228 yX6_cooksCode, Cond.instanceMethod yX6_cooksCode, Cond.selects RX6 yX6_cooksCode yX6_cooksCode]
def wsX6_mayHave_r2 : List Cond := [Cond.code yX6_cooksCode cX6_cooksCode 7 (some .boolean), Cond.methodLink RX6 167 yX6_cooks, Cond.instanceMethod yX6_cooks, Cond.selects RX6 yX6_cooks yX6_cooks, Cond.code yX6_cooks cX6_cooks 5 (some .boolean), Cond.methodLink RX6 102 yX6_becomes, Cond.instanceMethod yX6_becomes, Cond.selects RX6 yX6_becomes yX6_becomes, Cond.code yX6_becomes cX6_becomes 8 none, Cond.fieldLink RX6 17 "ThirdOfTheLastModel" "kinds" "[I", Cond.fieldLink RX6 20 "ThirdOfTheLastModel" "figures" "[I", Cond.methodLink RX6 90 yX6_nine, Cond.static yX6_nine, Cond.code yX6_nine cX6_nine 4 (some .long), Cond.methodLink RX6 94 yX6_ownOf, Cond.static yX6_ownOf, Cond.code yX6_ownOf cX6_ownOf 4 (some .int), Cond.methodLink RX6 98 yX6_keepsOf, Cond.static yX6_keepsOf, Cond.code yX6_keepsOf cX6_keepsOf 1 (some .int), Cond.methodLink RX6 199 yX6_least, Cond.static yX6_least, Cond.code yX6_least cX6_least 11 (some .long), Cond.methodLink RX6 231 yX6_digitsOf]
def wsX6_mayHave_r3 : List Cond := [Cond.static yX6_digitsOf, Cond.code yX6_digitsOf cX6_digitsOf 5 (some .int)]
def wsX6_mayHave : List Cond := .code yX6_mayHave cX6_mayHave 11 (some .int) :: ((wsX6_mayHave_r1 ++ (wsX6_mayHave_r2 ++ wsX6_mayHave_r3)) ++ wsX60)
def wsX6_alikeIn : List Cond := .code yX6_alikeIn cX6_alikeIn 6 (some .int) :: ([.fieldLink RX6 81 "ThirdOfTheLastModel" "pots" "I", .methodLink RX6 203 yX6_portionOf, .instanceMethod yX6_portionOf, .selects RX6 yX6_portionOf yX6_portionOf, .initialized RX6, .code yX6_portionOf cX6_portionOf 5 (some .int), .constantLong RX6 109 (100), .fieldLink RX6 7 "ThirdOfTheLastModel" "tastes" "[J", .methodLink RX6 106 yX6_allOf, .instanceMethod yX6_allOf, .selects RX6 yX6_allOf yX6_allOf, .code yX6_allOf cX6_allOf 5 (some .long)] ++ wsX60)
def wsX6_tells : List Cond := .code yX6_tells cX6_tells 4 (some .int) :: ([.fieldLink RX6 77 "ThirdOfTheLastModel" "thrown" "I", .fieldLink RX6 81 "ThirdOfTheLastModel" "pots" "I", .methodLink RX6 84 yX6_in, .static yX6_in, .initialized RX6, .code yX6_in cX6_in 6 (some .boolean), .methodLink RX6 234 yX6_alikeIn, .instanceMethod yX6_alikeIn, .selects RX6 yX6_alikeIn yX6_alikeIn, .code yX6_alikeIn cX6_alikeIn 6 (some .int), .methodLink RX6 203 yX6_portionOf, .instanceMethod yX6_portionOf, .selects RX6 yX6_portionOf yX6_portionOf, .code yX6_portionOf cX6_portionOf 5 (some .int), .constantLong RX6 109 (100), .fieldLink RX6 7 "ThirdOfTheLastModel" "tastes" "[J", .methodLink RX6 106 yX6_allOf, .instanceMethod yX6_allOf, .selects RX6 yX6_allOf yX6_allOf, .code yX6_allOf cX6_allOf 5 (some .long)] ++ wsX60)
def wsX6_lent_r1 : List Cond := [Cond.fieldLink RX6 77 "ThirdOfTheLastModel" "thrown" "I", Cond.constant RX6 237 (1000000000), Cond.fieldLink RX6 62 "ThirdOfTheLastModel" "dishFigure" "[I", Cond.fieldLink RX6 59 "ThirdOfTheLastModel" "dishKind" "[I", Cond.methodLink RX6 163 yX6_isPot, Cond.instanceMethod yX6_isPot, Cond.selects RX6 yX6_isPot yX6_isPot, Cond.initialized RX6, Cond.code yX6_isPot cX6_isPot 2 (some .boolean), Cond.fieldLink RX6 81 "ThirdOfTheLastModel" "pots" "I", Cond.methodLink RX6 84 yX6_in, Cond.static yX6_in, Cond.code yX6_in cX6_in 6 (some .boolean), Cond.methodLink RX6 192 yX6_wrongDish, Cond.instanceMethod yX6_wrongDish, Cond.selects RX6 yX6_wrongDish yX6_wrongDish, Cond.code yX6_wrongDish cX6_wrongDish 2 (some .int), Cond.constantLong RX6 190 (7), Cond.fieldLink RX6 56 "ThirdOfTheLastModel" "holdsWhat" "[I", Cond.methodLink RX6 170 yX6_same, Cond.instanceMethod yX6_same, Cond.selects RX6 yX6_same yX6_same, Cond.code yX6_same cX6_same 4 none, Cond.fieldLink RX6 13 "ThirdOfTheLastModel" "dishMany" "[I"]
def wsX6_lent_r2 : List Cond := [Cond.fieldLink RX6 7 "ThirdOfTheLastModel" "tastes" "[J", Cond.fieldLink RX6 17 "ThirdOfTheLastModel" "kinds" "[I", Cond.fieldLink RX6 20 "ThirdOfTheLastModel" "figures" "[I", Cond.methodLink RX6 102 yX6_becomes, Cond.instanceMethod yX6_becomes, Cond.selects RX6 yX6_becomes yX6_becomes, Cond.code yX6_becomes cX6_becomes 8 none, Cond.methodLink RX6 90 yX6_nine, Cond.static yX6_nine, Cond.code yX6_nine cX6_nine 4 (some .long), Cond.constantLong RX6 88 (9), Cond.methodLink RX6 94 yX6_ownOf, Cond.static yX6_ownOf, Cond.code yX6_ownOf cX6_ownOf 4 (some .int), Cond.methodLink RX6 98 yX6_keepsOf, Cond.static yX6_keepsOf, Cond.code yX6_keepsOf cX6_keepsOf 1 (some .int), Cond.methodLink RX6 203 yX6_portionOf, Cond.instanceMethod yX6_portionOf, Cond.selects RX6 yX6_portionOf yX6_portionOf, Cond.code yX6_portionOf cX6_portionOf 5 (some .int), Cond.constantLong RX6 109 (100), Cond.methodLink RX6 106 yX6_allOf, Cond.instanceMethod yX6_allOf]
def wsX6_lent_r3 : List Cond := [Cond.selects RX6 yX6_allOf yX6_allOf, Cond.code yX6_allOf cX6_allOf 5 (some .long), Cond.methodLink RX6 159 yX6_empty, Cond.instanceMethod yX6_empty, Cond.selects RX6 yX6_empty yX6_empty, Cond.code yX6_empty cX6_empty 3 none]
def wsX6_lent : List Cond := .code yX6_lent cX6_lent 6 (some .int) :: ((wsX6_lent_r1 ++ (wsX6_lent_r2 ++ wsX6_lent_r3)) ++ wsX60)
def wsX6_gone : List Cond := .code yX6_gone cX6_gone 9 (some .int) :: ([.fieldLink RX6 77 "ThirdOfTheLastModel" "thrown" "I", .constantLong RX6 190 (7), .constantLong RX6 88 (9), .constantLong RX6 109 (100), .methodLink RX6 84 yX6_in, .static yX6_in, .initialized RX6, .code yX6_in cX6_in 6 (some .boolean), .methodLink RX6 98 yX6_keepsOf, .static yX6_keepsOf, .code yX6_keepsOf cX6_keepsOf 1 (some .int)] ++ wsX60)
def wsX6_draw : List Cond := .code yX6_draw cX6_draw 2 (some .int) :: ([.fieldLink RX6 238 "ThirdOfTheLastModel" "seed" "I", .constant RX6 241 (1103515245), .constant RX6 242 (2147483647), .constant RX6 243 (65536)] ++ wsX60)
def wsX6_seeded_r1 : List Cond := [Cond.fieldLink RX6 77 "ThirdOfTheLastModel" "thrown" "I", Cond.constantLong RX6 244 (12), Cond.constantLong RX6 195 (3), Cond.fieldLink RX6 238 "ThirdOfTheLastModel" "seed" "I", Cond.methodLink RX6 84 yX6_in, Cond.static yX6_in, Cond.initialized RX6, Cond.code yX6_in cX6_in 6 (some .boolean), Cond.methodLink RX6 159 yX6_empty, Cond.instanceMethod yX6_empty, Cond.selects RX6 yX6_empty yX6_empty, Cond.code yX6_empty cX6_empty 3 none, Cond.fieldLink RX6 13 "ThirdOfTheLastModel" "dishMany" "[I", Cond.fieldLink RX6 7 "ThirdOfTheLastModel" "tastes" "[J", Cond.methodLink RX6 246 yX6_draw, Cond.instanceMethod yX6_draw, Cond.selects RX6 yX6_draw yX6_draw, Cond.code yX6_draw cX6_draw 2 (some .int), Cond.constant RX6 241 (1103515245), Cond.constant RX6 242 (2147483647), Cond.constant RX6 243 (65536), Cond.methodLink RX6 167 yX6_cooks, Cond.instanceMethod yX6_cooks, Cond.selects RX6 yX6_cooks yX6_cooks]
def wsX6_seeded_r2 : List Cond := [Cond.code yX6_cooks cX6_cooks 5 (some .boolean), Cond.methodLink RX6 102 yX6_becomes, Cond.instanceMethod yX6_becomes, Cond.selects RX6 yX6_becomes yX6_becomes, Cond.code yX6_becomes cX6_becomes 8 none, Cond.fieldLink RX6 17 "ThirdOfTheLastModel" "kinds" "[I", Cond.fieldLink RX6 20 "ThirdOfTheLastModel" "figures" "[I", Cond.methodLink RX6 90 yX6_nine, Cond.static yX6_nine, Cond.code yX6_nine cX6_nine 4 (some .long), Cond.constantLong RX6 88 (9), Cond.methodLink RX6 94 yX6_ownOf, Cond.static yX6_ownOf, Cond.code yX6_ownOf cX6_ownOf 4 (some .int), Cond.methodLink RX6 98 yX6_keepsOf, Cond.static yX6_keepsOf, Cond.code yX6_keepsOf cX6_keepsOf 1 (some .int), Cond.methodLink RX6 203 yX6_portionOf, Cond.instanceMethod yX6_portionOf, Cond.selects RX6 yX6_portionOf yX6_portionOf, Cond.code yX6_portionOf cX6_portionOf 5 (some .int), Cond.constantLong RX6 109 (100), Cond.methodLink RX6 106 yX6_allOf, Cond.instanceMethod yX6_allOf]
def wsX6_seeded_r3 : List Cond := [Cond.selects RX6 yX6_allOf yX6_allOf, Cond.code yX6_allOf cX6_allOf 5 (some .long)]
def wsX6_seeded : List Cond := .code yX6_seeded cX6_seeded 6 (some .int) :: ((wsX6_seeded_r1 ++ (wsX6_seeded_r2 ++ wsX6_seeded_r3)) ++ wsX60)
def wsX6_skippedIn : List Cond := .code yX6_skippedIn cX6_skippedIn 2 (some .long) :: ([.fieldLink RX6 65 "ThirdOfTheLastModel" "rowSort" "[I", .constantLong RX6 249 (-128), .constantLong RX6 251 (-32768), .constantLong RX6 253 (-2147483648)] ++ wsX60)
def wsX6_judge_r1 : List Cond := [Cond.fieldLink RX6 77 "ThirdOfTheLastModel" "thrown" "I", Cond.fieldLink RX6 81 "ThirdOfTheLastModel" "pots" "I", Cond.fieldLink RX6 68 "ThirdOfTheLastModel" "rowMany" "[I", Cond.fieldLink RX6 71 "ThirdOfTheLastModel" "rows" "[J", Cond.methodLink RX6 255 yX6_wrongRow, Cond.instanceMethod yX6_wrongRow, Cond.selects RX6 yX6_wrongRow yX6_wrongRow, Cond.initialized RX6, Cond.code yX6_wrongRow cX6_wrongRow 2 (some .int), Cond.constantLong RX6 190 (7), Cond.fieldLink RX6 56 "ThirdOfTheLastModel" "holdsWhat" "[I", Cond.methodLink RX6 84 yX6_in, Cond.static yX6_in, Cond.code yX6_in cX6_in 6 (some .boolean), Cond.methodLink RX6 258 yX6_skippedIn, Cond.instanceMethod yX6_skippedIn, Cond.selects RX6 yX6_skippedIn yX6_skippedIn, Cond.code yX6_skippedIn cX6_skippedIn 2 (some .long), Cond.fieldLink RX6 65 "ThirdOfTheLastModel" "rowSort" "[I", Cond.constantLong RX6 249 (-128), Cond.constantLong RX6 251 (-32768), Cond.constantLong RX6 253 (-2147483648), Cond.methodLink RX6 203 yX6_portionOf, Cond.instanceMethod yX6_portionOf]
def wsX6_judge_r2 : List Cond := [Cond.selects RX6 yX6_portionOf yX6_portionOf, Cond.code yX6_portionOf cX6_portionOf 5 (some .int), Cond.constantLong RX6 109 (100), Cond.fieldLink RX6 7 "ThirdOfTheLastModel" "tastes" "[J", Cond.methodLink RX6 106 yX6_allOf, Cond.instanceMethod yX6_allOf, Cond.selects RX6 yX6_allOf yX6_allOf, Cond.code yX6_allOf cX6_allOf 5 (some .long)]
def wsX6_judge : List Cond := .code yX6_judge cX6_judge 6 (some .int) :: ((wsX6_judge_r1 ++ wsX6_judge_r2) ++ wsX60)
def wsX6_count : List Cond := .code yX6_count cX6_count 7 (some .int) :: ([.fieldLink RX6 77 "ThirdOfTheLastModel" "thrown" "I", .fieldLink RX6 81 "ThirdOfTheLastModel" "pots" "I", .fieldLink RX6 13 "ThirdOfTheLastModel" "dishMany" "[I", .fieldLink RX6 17 "ThirdOfTheLastModel" "kinds" "[I", .methodLink RX6 106 yX6_allOf, .instanceMethod yX6_allOf, .selects RX6 yX6_allOf yX6_allOf, .initialized RX6, .code yX6_allOf cX6_allOf 5 (some .long), .fieldLink RX6 7 "ThirdOfTheLastModel" "tastes" "[J"] ++ wsX60)
def wsX6_keep : List Cond := .code yX6_keep cX6_keep 5 (some .int) :: ([.fieldLink RX6 77 "ThirdOfTheLastModel" "thrown" "I", .constantLong RX6 190 (7), .constantLong RX6 88 (9), .fieldLink RX6 56 "ThirdOfTheLastModel" "holdsWhat" "[I", .fieldLink RX6 59 "ThirdOfTheLastModel" "dishKind" "[I", .fieldLink RX6 62 "ThirdOfTheLastModel" "dishFigure" "[I", .methodLink RX6 84 yX6_in, .static yX6_in, .initialized RX6, .code yX6_in cX6_in 6 (some .boolean)] ++ wsX60)
def wsX6_narrowed : List Cond := .code yX6_narrowed cX6_narrowed 2 (some .long) :: ([])
def wsX6_row : List Cond := .code yX6_row cX6_row 5 (some .int) :: ([.fieldLink RX6 77 "ThirdOfTheLastModel" "thrown" "I", .constantLong RX6 190 (7), .constantLong RX6 261 (2), .fieldLink RX6 56 "ThirdOfTheLastModel" "holdsWhat" "[I", .fieldLink RX6 65 "ThirdOfTheLastModel" "rowSort" "[I", .fieldLink RX6 68 "ThirdOfTheLastModel" "rowMany" "[I", .fieldLink RX6 71 "ThirdOfTheLastModel" "rows" "[J", .methodLink RX6 84 yX6_in, .static yX6_in, .initialized RX6, .code yX6_in cX6_in 6 (some .boolean)] ++ wsX60)
def wsX6_put : List Cond := .code yX6_put cX6_put 5 (some .int) :: ([.fieldLink RX6 77 "ThirdOfTheLastModel" "thrown" "I", .fieldLink RX6 68 "ThirdOfTheLastModel" "rowMany" "[I", .fieldLink RX6 71 "ThirdOfTheLastModel" "rows" "[J", .fieldLink RX6 65 "ThirdOfTheLastModel" "rowSort" "[I", .methodLink RX6 255 yX6_wrongRow, .instanceMethod yX6_wrongRow, .selects RX6 yX6_wrongRow yX6_wrongRow, .initialized RX6, .code yX6_wrongRow cX6_wrongRow 2 (some .int), .constantLong RX6 190 (7), .fieldLink RX6 56 "ThirdOfTheLastModel" "holdsWhat" "[I", .methodLink RX6 84 yX6_in, .static yX6_in, .code yX6_in cX6_in 6 (some .boolean), .methodLink RX6 263 yX6_narrowed, .static yX6_narrowed, .code yX6_narrowed cX6_narrowed 2 (some .long)] ++ wsX60)
def wsX6_element : List Cond := .code yX6_element cX6_element 4 (some .long) :: ([.fieldLink RX6 68 "ThirdOfTheLastModel" "rowMany" "[I", .fieldLink RX6 77 "ThirdOfTheLastModel" "thrown" "I", .fieldLink RX6 71 "ThirdOfTheLastModel" "rows" "[J", .methodLink RX6 255 yX6_wrongRow, .instanceMethod yX6_wrongRow, .selects RX6 yX6_wrongRow yX6_wrongRow, .initialized RX6, .code yX6_wrongRow cX6_wrongRow 2 (some .int), .constantLong RX6 190 (7), .fieldLink RX6 56 "ThirdOfTheLastModel" "holdsWhat" "[I", .methodLink RX6 84 yX6_in, .static yX6_in, .code yX6_in cX6_in 6 (some .boolean)] ++ wsX60)
def wsX6_copy : List Cond := .code yX6_copy cX6_copy 7 (some .int) :: ([.fieldLink RX6 77 "ThirdOfTheLastModel" "thrown" "I", .constantLong RX6 190 (7), .fieldLink RX6 56 "ThirdOfTheLastModel" "holdsWhat" "[I", .fieldLink RX6 65 "ThirdOfTheLastModel" "rowSort" "[I", .fieldLink RX6 68 "ThirdOfTheLastModel" "rowMany" "[I", .fieldLink RX6 74 "ThirdOfTheLastModel" "between" "[J", .fieldLink RX6 71 "ThirdOfTheLastModel" "rows" "[J", .methodLink RX6 84 yX6_in, .static yX6_in, .initialized RX6, .code yX6_in cX6_in 6 (some .boolean)] ++ wsX60)
def wsX6_price : List Cond := .code yX6_price cX6_price 2 (some .int) :: ([.fieldLink RX6 77 "ThirdOfTheLastModel" "thrown" "I", .fieldLink RX6 59 "ThirdOfTheLastModel" "dishKind" "[I", .fieldLink RX6 62 "ThirdOfTheLastModel" "dishFigure" "[I", .methodLink RX6 192 yX6_wrongDish, .instanceMethod yX6_wrongDish, .selects RX6 yX6_wrongDish yX6_wrongDish, .initialized RX6, .code yX6_wrongDish cX6_wrongDish 2 (some .int), .constantLong RX6 190 (7), .fieldLink RX6 56 "ThirdOfTheLastModel" "holdsWhat" "[I", .methodLink RX6 84 yX6_in, .static yX6_in, .code yX6_in cX6_in 6 (some .boolean), .methodLink RX6 266 yX6_priceOf, .static yX6_priceOf, .code yX6_priceOf cX6_priceOf 2 (some .int)] ++ wsX60)
def wsX6_toss : List Cond := .code yX6_toss cX6_toss 4 (some .int) :: ([.fieldLink RX6 77 "ThirdOfTheLastModel" "thrown" "I", .fieldLink RX6 59 "ThirdOfTheLastModel" "dishKind" "[I", .fieldLink RX6 62 "ThirdOfTheLastModel" "dishFigure" "[I", .methodLink RX6 192 yX6_wrongDish, .instanceMethod yX6_wrongDish, .selects RX6 yX6_wrongDish yX6_wrongDish, .initialized RX6, .code yX6_wrongDish cX6_wrongDish 2 (some .int), .constantLong RX6 190 (7), .fieldLink RX6 56 "ThirdOfTheLastModel" "holdsWhat" "[I", .methodLink RX6 84 yX6_in, .static yX6_in, .code yX6_in cX6_in 6 (some .boolean), .methodLink RX6 266 yX6_priceOf, .static yX6_priceOf, .code yX6_priceOf cX6_priceOf 2 (some .int)] ++ wsX60)
def wsJ9_max_7cf53 : List Cond := .code yJ9_max_7cf53 cJ9_max_7cf53 2 (some .int) :: ([])
def wsJ9_min_7cf53 : List Cond := .code yJ9_min_7cf53 cJ9_min_7cf53 2 (some .int) :: ([])
def wsL_element_r1 : List Cond := [Cond.classLink RL 13 "java/lang/IllegalArgumentException", Cond.classLink RL 15 "java/lang/IllegalStateException", Cond.methodLink RL 7 yX5_element, Cond.instanceMethod yX5_element, Cond.selects RX5 yX5_element yX5_element, Cond.initialized RX5, Cond.code yX5_element cX5_element 3 (some .long), Cond.classLink RX5 291 "java/lang/IllegalArgumentException", Cond.initialized "java/lang/IllegalArgumentException", Cond.classLink RX5 297 "java/lang/IllegalStateException", Cond.initialized "java/lang/IllegalStateException", Cond.fieldLink RX5 42 "ThirdOfTheLast" "shelves" "[LThirdOfTheLast$Shelf;", Cond.fieldLink RX5 266 "ThirdOfTheLast$Shelf" "elements" "[I", Cond.methodLink RX5 183 yX5_isNoShelf, Cond.static yX5_isNoShelf, Cond.code yX5_isNoShelf cX5_isNoShelf 1 (some .boolean), Cond.methodLink RX5 294 yX4_holdsRow, Cond.instanceMethod yX4_holdsRow, Cond.selects RX4 yX4_holdsRow yX4_holdsRow, Cond.initialized RX4, Cond.code yX4_holdsRow cX4_holdsRow 1 (some .boolean), Cond.fieldLink RX4 15 "ThirdOfTheLast$Shelf" "held" "I", Cond.methodLink RX5 285 yX4_hasElement, Cond.instanceMethod yX4_hasElement]
def wsL_element_r2 : List Cond := [Cond.selects RX4 yX4_hasElement yX4_hasElement, Cond.code yX4_hasElement cX4_hasElement 2 (some .boolean), Cond.fieldLink RX4 28 "ThirdOfTheLast$Shelf" "size" "I"]
def wsL_element : List Cond := .codeWith yL_element cL_element 5 (some .int) [(0, 9, 12, 13), (0, 9, 16, 15)] :: ((wsL_element_r1 ++ wsL_element_r2) ++ wsX50 ++ wsX40 ++ (vx_at0 RX5 293 "java/lang/IllegalArgumentException" ["java/lang/RuntimeException", "java/lang/Exception"]).filter goodWord ++ (vx_at0 RX5 299 "java/lang/IllegalStateException" ["java/lang/RuntimeException", "java/lang/Exception"]).filter goodWord)
def wsL_law0_r1 : List Cond := [Cond.classLink RL 8 RX5, Cond.instantiable RX5 8, Cond.initialized RX5, Cond.classLink RL 18 RX6, Cond.instantiable RX6 33, Cond.initialized RX6, Cond.arrayClass .long, Cond.methodLink RL 17 yX5_init, Cond.instanceMethod yX5_init, Cond.code yX5_init cX5_init 2 none, Cond.methodLink RX5 1 objectInit, Cond.instanceMethod objectInit, Cond.code objectInit ⟨#[0xb1]⟩ 1 none, Cond.classLink RX5 7 RX1, Cond.instantiable RX1 2, Cond.initialized RX1, Cond.fieldLink RX5 10 "ThirdOfTheLast" "now" "LThirdOfTheLast$Kitchen;", Cond.fieldLink RX5 16 "ThirdOfTheLast" "tried" "LThirdOfTheLast$Kitchen;", Cond.fieldLink RX5 19 "ThirdOfTheLast" "kept" "LThirdOfTheLast$Kitchen;", Cond.classLink RX5 22 RX2, Cond.instantiable RX2 7, Cond.initialized RX2, Cond.fieldLink RX5 25 "ThirdOfTheLast" "mind" "LThirdOfTheLast$Mind;", Cond.classLink RX5 29 RX0]
def wsL_law0_r2 : List Cond := [Cond.instantiable RX0 3, Cond.initialized RX0, Cond.fieldLink RX5 32 "ThirdOfTheLast" "trial" "LThirdOfTheLast$Flavour;", Cond.arrayClass .int, Cond.fieldLink RX5 36 "ThirdOfTheLast" "portions" "[I", Cond.classLink RX5 40 RX4, Cond.fieldLink RX5 42 "ThirdOfTheLast" "shelves" "[LThirdOfTheLast$Shelf;", Cond.instantiable RX4 6, Cond.initialized RX4, Cond.methodLink RX5 9 yX1_init, Cond.instanceMethod yX1_init, Cond.code yX1_init cX1_init 2 none, Cond.methodLink RX1 3 objectInit, Cond.classLink RX1 9 RX3, Cond.fieldLink RX1 11 "ThirdOfTheLast$Kitchen" "pots" "[LThirdOfTheLast$Pot;", Cond.instantiable RX3 3, Cond.initialized RX3, Cond.instanceMethod yX3_init, Cond.code yX3_init cX3_init 1 none, Cond.methodLink RX3 3 objectInit, Cond.classLink RX3 9 RX0, Cond.fieldLink RX3 12 "ThirdOfTheLast$Pot" "flavour" "LThirdOfTheLast$Flavour;", Cond.fieldLink RX3 18 "ThirdOfTheLast$Pot" "kinds" "[I", Cond.fieldLink RX3 22 "ThirdOfTheLast$Pot" "figures" "[I"]
def wsL_law0_r3 : List Cond := [Cond.instanceMethod yX0_init, Cond.code yX0_init cX0_init 1 none, Cond.methodLink RX0 3 objectInit, Cond.fieldLink RX0 9 "ThirdOfTheLast$Flavour" "above" "[J", Cond.fieldLink RX0 15 "ThirdOfTheLast$Flavour" "below" "J", Cond.methodLink RX5 24 yX2_init, Cond.instanceMethod yX2_init, Cond.code yX2_init cX2_init 2 none, Cond.methodLink RX2 3 objectInit, Cond.classLink RX2 9 RX0, Cond.fieldLink RX2 11 "ThirdOfTheLast$Mind" "pots" "[LThirdOfTheLast$Flavour;", Cond.fieldLink RX2 17 "ThirdOfTheLast$Mind" "before" "[LThirdOfTheLast$Flavour;", Cond.instanceMethod yX4_init, Cond.code yX4_init cX4_init 1 none, Cond.methodLink RX4 3 objectInit, Cond.fieldLink RX4 9 "ThirdOfTheLast$Shelf" "elements" "[I", Cond.methodLink RL 20 yX6_init, Cond.instanceMethod yX6_init, Cond.code yX6_init cX6_init 1 none, Cond.methodLink RX6 1 objectInit, Cond.fieldLink RX6 7 "ThirdOfTheLastModel" "tastes" "[J", Cond.fieldLink RX6 13 "ThirdOfTheLastModel" "dishMany" "[I", Cond.fieldLink RX6 17 "ThirdOfTheLastModel" "kinds" "[I", Cond.fieldLink RX6 20 "ThirdOfTheLastModel" "figures" "[I"]
def wsL_law0_r4 : List Cond := [Cond.fieldLink RX6 23 "ThirdOfTheLastModel" "imagedTastes" "[J", Cond.fieldLink RX6 26 "ThirdOfTheLastModel" "imagedMany" "[I", Cond.fieldLink RX6 29 "ThirdOfTheLastModel" "imagedKinds" "[I", Cond.fieldLink RX6 32 "ThirdOfTheLastModel" "imagedFigures" "[I", Cond.fieldLink RX6 35 "ThirdOfTheLastModel" "keptTastes" "[J", Cond.fieldLink RX6 38 "ThirdOfTheLastModel" "keptMany" "[I", Cond.fieldLink RX6 41 "ThirdOfTheLastModel" "keptKinds" "[I", Cond.fieldLink RX6 44 "ThirdOfTheLastModel" "keptFigures" "[I", Cond.fieldLink RX6 47 "ThirdOfTheLastModel" "placeOf" "[I", Cond.fieldLink RX6 50 "ThirdOfTheLastModel" "letterOf" "[I", Cond.fieldLink RX6 53 "ThirdOfTheLastModel" "told" "[I", Cond.fieldLink RX6 56 "ThirdOfTheLastModel" "holdsWhat" "[I", Cond.fieldLink RX6 59 "ThirdOfTheLastModel" "dishKind" "[I", Cond.fieldLink RX6 62 "ThirdOfTheLastModel" "dishFigure" "[I", Cond.fieldLink RX6 65 "ThirdOfTheLastModel" "rowSort" "[I", Cond.fieldLink RX6 68 "ThirdOfTheLastModel" "rowMany" "[I", Cond.fieldLink RX6 71 "ThirdOfTheLastModel" "rows" "[J", Cond.fieldLink RX6 74 "ThirdOfTheLastModel" "between" "[J", Cond.fieldLink RX6 77 "ThirdOfTheLastModel" "thrown" "I", Cond.methodLink RL 21 yX5_kitchen, Cond.instanceMethod yX5_kitchen, Cond.selects RX5 yX5_kitchen yX5_kitchen, Cond.code yX5_kitchen cX5_kitchen 7 (some .int), Cond.fieldLink RX5 59 "ThirdOfTheLast$Shelf" "size" "I"]
def wsL_law0_r5 : List Cond := [Cond.methodLink RX5 47 yX5_bytesRefusal, Cond.instanceMethod yX5_bytesRefusal, Cond.selects RX5 yX5_bytesRefusal yX5_bytesRefusal, Cond.code yX5_bytesRefusal cX5_bytesRefusal 3 (some .int), Cond.fieldLink RX5 303 "ThirdOfTheLast$Shelf" "sort" "I", Cond.methodLink RX5 257 yX5_rowRefusal, Cond.instanceMethod yX5_rowRefusal, Cond.selects RX5 yX5_rowRefusal yX5_rowRefusal, Cond.code yX5_rowRefusal cX5_rowRefusal 2 (some .int), Cond.methodLink RX5 183 yX5_isNoShelf, Cond.static yX5_isNoShelf, Cond.code yX5_isNoShelf cX5_isNoShelf 1 (some .boolean), Cond.methodLink RX5 300 yX4_holdsNothing, Cond.instanceMethod yX4_holdsNothing, Cond.selects RX4 yX4_holdsNothing yX4_holdsNothing, Cond.code yX4_holdsNothing cX4_holdsNothing 1 (some .boolean), Cond.fieldLink RX4 15 "ThirdOfTheLast$Shelf" "held" "I", Cond.methodLink RX5 294 yX4_holdsRow, Cond.instanceMethod yX4_holdsRow, Cond.selects RX4 yX4_holdsRow yX4_holdsRow, Cond.code yX4_holdsRow cX4_holdsRow 1 (some .boolean), Cond.methodLink RX5 51 yX1_brokenAt, Cond.static yX1_brokenAt, Cond.code yX1_brokenAt cX1_brokenAt 4 (some .int)]
def wsL_law0_r6 : List Cond := [Cond.fieldLink RX1 52 "ThirdOfTheLast$Shelf" "size" "I", Cond.methodLink RX1 35 yX4_elementOr, Cond.instanceMethod yX4_elementOr, Cond.selects RX4 yX4_elementOr yX4_elementOr, Cond.code yX4_elementOr cX4_elementOr 3 (some .int), Cond.methodLink RX4 31 yX4_hasElement, Cond.instanceMethod yX4_hasElement, Cond.selects RX4 yX4_hasElement yX4_hasElement, Cond.code yX4_hasElement cX4_hasElement 2 (some .boolean), Cond.fieldLink RX4 28 "ThirdOfTheLast$Shelf" "size" "I", Cond.methodLink RX1 41 yX1_digitsBehind, Cond.static yX1_digitsBehind, Cond.code yX1_digitsBehind cX1_digitsBehind 1 (some .int), Cond.methodLink RX1 45 yX4_digitAt, Cond.instanceMethod yX4_digitAt, Cond.selects RX4 yX4_digitAt yX4_digitAt, Cond.code yX4_digitAt cX4_digitAt 2 (some .int), Cond.methodLink RX4 35 yX4_elementOr, Cond.static yX5_isNoFigure, Cond.code yX5_isNoFigure cX5_isNoFigure 1 (some .boolean), Cond.methodLink RX5 55 yX1_become, Cond.instanceMethod yX1_become, Cond.selects RX1 yX1_become yX1_become, Cond.code yX1_become cX1_become 3 none]
def wsL_law0_r7 : List Cond := [Cond.fieldLink RX1 18 "ThirdOfTheLast$Kitchen" "size" "I", Cond.methodLink RX1 22 yX3_become, Cond.instanceMethod yX3_become, Cond.selects RX3 yX3_become yX3_become, Cond.code yX3_become cX3_become 2 none, Cond.methodLink RX3 29 arraycopyName, Cond.native arraycopyName, Cond.static arraycopyName, Cond.initialized "java/lang/System", Cond.methodLink RX3 25 yX0_become, Cond.instanceMethod yX0_become, Cond.selects RX0 yX0_become yX0_become, Cond.code yX0_become cX0_become 3 none, Cond.fieldLink RX0 19 "ThirdOfTheLast$Flavour" "count" "I", Cond.methodLink RX5 63 yX1_carryOut, Cond.instanceMethod yX1_carryOut, Cond.selects RX1 yX1_carryOut yX1_carryOut, Cond.code yX1_carryOut cX1_carryOut 5 (some .boolean), Cond.methodLink RX1 53 yX1_addPot, Cond.instanceMethod yX1_addPot, Cond.selects RX1 yX1_addPot yX1_addPot, Cond.code yX1_addPot cX1_addPot 1 (some .boolean), Cond.fieldLink RX1 26 "ThirdOfTheLast$Pot" "flavour" "LThirdOfTheLast$Flavour;", Cond.methodLink RX1 30 yX0_clear]
def wsL_law0_r8 : List Cond := [Cond.instanceMethod yX0_clear, Cond.selects RX0 yX0_clear yX0_clear, Cond.code yX0_clear cX0_clear 2 none, Cond.methodLink RX1 57 yX1_cookIn, Cond.instanceMethod yX1_cookIn, Cond.selects RX1 yX1_cookIn yX1_cookIn, Cond.code yX1_cookIn cX1_cookIn 4 (some .boolean), Cond.methodLink RX1 68 yX1_has, Cond.instanceMethod yX1_has, Cond.selects RX1 yX1_has yX1_has, Cond.code yX1_has cX1_has 2 (some .boolean), Cond.static yX5_isNoKind, Cond.code yX5_isNoKind cX5_isNoKind 1 (some .boolean), Cond.methodLink RX1 74 yX3_cookIn, Cond.instanceMethod yX3_cookIn, Cond.selects RX3 yX3_cookIn yX3_cookIn, Cond.code yX3_cookIn cX3_cookIn 3 (some .boolean), Cond.fieldLink RX3 39 "ThirdOfTheLast$Flavour" "count" "I", Cond.methodLink RX3 35 yX0_hasRoom, Cond.instanceMethod yX0_hasRoom, Cond.selects RX0 yX0_hasRoom yX0_hasRoom, Cond.code yX0_hasRoom cX0_hasRoom 1 (some .boolean), Cond.methodLink RX3 43 yX0_takeIn, Cond.instanceMethod yX0_takeIn]
def wsL_law0_r9 : List Cond := [Cond.selects RX0 yX0_takeIn yX0_takeIn, Cond.code yX0_takeIn cX0_takeIn 5 none, Cond.constantLong RX0 27 (9), Cond.static yX5_keepsOf, Cond.code yX5_keepsOf cX5_keepsOf 4 (some .int), Cond.static yX5_ownOf, Cond.code yX5_ownOf cX5_ownOf 6 (some .int), Cond.methodLink RX1 61 yX1_renew, Cond.instanceMethod yX1_renew, Cond.selects RX1 yX1_renew yX1_renew, Cond.code yX1_renew cX1_renew 2 (some .boolean), Cond.methodLink RX1 64 yX1_makeAlike, Cond.instanceMethod yX1_makeAlike, Cond.selects RX1 yX1_makeAlike yX1_makeAlike, Cond.code yX1_makeAlike cX1_makeAlike 3 (some .boolean), Cond.methodLink RX5 67 yX4_elementOr, Cond.methodLink RX5 71 yX1_digitsBehind, Cond.methodLink RL 25 yX6_kitchen, Cond.instanceMethod yX6_kitchen, Cond.selects RX6 yX6_kitchen yX6_kitchen, Cond.code yX6_kitchen cX6_kitchen 4 (some .int), Cond.fieldLink RX6 139 "ThirdOfTheLastModel" "base" "I", Cond.fieldLink RX6 136 "ThirdOfTheLastModel" "end" "I", Cond.fieldLink RX6 133 "ThirdOfTheLastModel" "at" "I"]
def wsL_law0_r10 : List Cond := [Cond.fieldLink RX6 142 "ThirdOfTheLastModel" "isBad" "Z", Cond.fieldLink RX6 153 "ThirdOfTheLastModel" "statements" "I", Cond.methodLink RX6 174 yX6_wrongSort, Cond.instanceMethod yX6_wrongSort, Cond.selects RX6 yX6_wrongSort yX6_wrongSort, Cond.code yX6_wrongSort cX6_wrongSort 3 (some .int), Cond.methodLink RX6 255 yX6_wrongRow, Cond.instanceMethod yX6_wrongRow, Cond.selects RX6 yX6_wrongRow yX6_wrongRow, Cond.code yX6_wrongRow cX6_wrongRow 2 (some .int), Cond.constantLong RX6 190 (7), Cond.methodLink RX6 84 yX6_in, Cond.static yX6_in, Cond.code yX6_in cX6_in 6 (some .boolean), Cond.methodLink RX6 178 yX6_readStatement, Cond.instanceMethod yX6_readStatement, Cond.selects RX6 yX6_readStatement yX6_readStatement, Cond.code yX6_readStatement cX6_readStatement 5 none, Cond.methodLink RX6 145 yX6_here, Cond.instanceMethod yX6_here, Cond.selects RX6 yX6_here yX6_here, Cond.code yX6_here cX6_here 1 (some .int), Cond.methodLink RX6 156 yX6_readDigit, Cond.instanceMethod yX6_readDigit]
def wsL_law0_r11 : List Cond := [Cond.selects RX6 yX6_readDigit yX6_readDigit, Cond.code yX6_readDigit cX6_readDigit 1 (some .int), Cond.constantLong RX6 149 (48), Cond.constantLong RX6 151 (57), Cond.methodLink RX6 181 yX6_open, Cond.instanceMethod yX6_open, Cond.selects RX6 yX6_open yX6_open, Cond.code yX6_open cX6_open 1 none, Cond.fieldLink RX6 81 "ThirdOfTheLastModel" "pots" "I", Cond.fieldLink RX6 115 "ThirdOfTheLastModel" "keptPots" "I", Cond.methodLink RX6 118 yX6_copyLongs, Cond.static yX6_copyLongs, Cond.code yX6_copyLongs cX6_copyLongs 3 none, Cond.methodLink RX6 122 yX6_copyInts, Cond.static yX6_copyInts, Cond.code yX6_copyInts cX6_copyInts 4 none, Cond.methodLink RX6 184 yX6_comes, Cond.instanceMethod yX6_comes, Cond.selects RX6 yX6_comes yX6_comes, Cond.code yX6_comes cX6_comes 5 (some .boolean), Cond.methodLink RX6 159 yX6_empty, Cond.instanceMethod yX6_empty, Cond.selects RX6 yX6_empty yX6_empty, Cond.code yX6_empty cX6_empty 3 none]
def wsL_law0_r12 : List Cond := [Cond.methodLink RX6 163 yX6_isPot, Cond.instanceMethod yX6_isPot, Cond.selects RX6 yX6_isPot yX6_isPot, Cond.code yX6_isPot cX6_isPot 2 (some .boolean), Cond.methodLink RX6 167 yX6_cooks, Cond.instanceMethod yX6_cooks, Cond.selects RX6 yX6_cooks yX6_cooks, Cond.code yX6_cooks cX6_cooks 5 (some .boolean), Cond.methodLink RX6 102 yX6_becomes, Cond.instanceMethod yX6_becomes, Cond.selects RX6 yX6_becomes yX6_becomes, Cond.code yX6_becomes cX6_becomes 8 none, Cond.methodLink RX6 90 yX6_nine, Cond.static yX6_nine, Cond.code yX6_nine cX6_nine 4 (some .long), Cond.constantLong RX6 88 (9), Cond.methodLink RX6 94 yX6_ownOf, Cond.static yX6_ownOf, Cond.code yX6_ownOf cX6_ownOf 4 (some .int), Cond.methodLink RX6 98 yX6_keepsOf, Cond.static yX6_keepsOf, Cond.code yX6_keepsOf cX6_keepsOf 1 (some .int), Cond.methodLink RX6 170 yX6_same, Cond.instanceMethod yX6_same]
def wsL_law0_r13 : List Cond := [Cond.selects RX6 yX6_same yX6_same, Cond.code yX6_same cX6_same 4 none, Cond.methodLink RX6 187 yX6_close, Cond.instanceMethod yX6_close, Cond.selects RX6 yX6_close yX6_close, Cond.code yX6_close cX6_close 1 none, Cond.methodLink RL 26 yX5_pot, Cond.instanceMethod yX5_pot, Cond.selects RX5 yX5_pot yX5_pot, Cond.code yX5_pot cX5_pot 1 (some .int), Cond.fieldLink RX5 78 "ThirdOfTheLast$Kitchen" "size" "I", Cond.methodLink RX5 74 yX1_addPot, Cond.methodLink RL 30 yX6_pot, Cond.instanceMethod yX6_pot, Cond.selects RX6 yX6_pot yX6_pot, Cond.code yX6_pot cX6_pot 1 (some .int), Cond.methodLink RL 31 yX5_cook, Cond.instanceMethod yX5_cook, Cond.selects RX5 yX5_cook yX5_cook, Cond.code yX5_cook cX5_cook 5 (some .int), Cond.fieldLink RX5 86 "ThirdOfTheLast$Kitchen" "pots" "[LThirdOfTheLast$Pot;", Cond.fieldLink RX5 90 "ThirdOfTheLast$Shelf" "kind" "I", Cond.fieldLink RX5 93 "ThirdOfTheLast$Shelf" "figure" "I", Cond.fieldLink RX5 102 "ThirdOfTheLast$Pot" "flavour" "LThirdOfTheLast$Flavour;"]
def wsL_law0_r14 : List Cond := [Cond.fieldLink RX5 105 "ThirdOfTheLast$Flavour" "count" "I", Cond.methodLink RX5 79 yX1_has, Cond.methodLink RX5 83 yX5_dishRefusal, Cond.instanceMethod yX5_dishRefusal, Cond.selects RX5 yX5_dishRefusal yX5_dishRefusal, Cond.code yX5_dishRefusal cX5_dishRefusal 2 (some .int), Cond.methodLink RX5 96 yX3_cookIn, Cond.methodLink RL 35 yX6_cook, Cond.instanceMethod yX6_cook, Cond.selects RX6 yX6_cook yX6_cook, Cond.code yX6_cook cX6_cook 4 (some .int), Cond.methodLink RX6 192 yX6_wrongDish, Cond.instanceMethod yX6_wrongDish, Cond.selects RX6 yX6_wrongDish yX6_wrongDish, Cond.code yX6_wrongDish cX6_wrongDish 2 (some .int), Cond.methodLink RL 36 yX5_dish, Cond.instanceMethod yX5_dish, Cond.selects RX5 yX5_dish yX5_dish, Cond.code yX5_dish cX5_dish 5 (some .int), Cond.methodLink RX5 108 yX5_isNoHalf, Cond.static yX5_isNoHalf, Cond.code yX5_isNoHalf cX5_isNoHalf 1 (some .boolean), Cond.methodLink RX5 111 yX3_hasDish, Cond.instanceMethod yX3_hasDish]
def wsL_law0_r15 : List Cond := [Cond.selects RX3 yX3_hasDish yX3_hasDish, Cond.code yX3_hasDish cX3_hasDish 2 (some .boolean), Cond.methodLink RX5 114 yX3_kindOf, Cond.instanceMethod yX3_kindOf, Cond.selects RX3 yX3_kindOf yX3_kindOf, Cond.code yX3_kindOf cX3_kindOf 2 (some .int), Cond.methodLink RX5 117 yX3_figureOf, Cond.instanceMethod yX3_figureOf, Cond.selects RX3 yX3_figureOf yX3_figureOf, Cond.code yX3_figureOf cX3_figureOf 2 (some .int), Cond.methodLink RL 40 yX6_dish, Cond.instanceMethod yX6_dish, Cond.selects RX6 yX6_dish yX6_dish, Cond.code yX6_dish cX6_dish 5 (some .int), Cond.methodLink RL 41 yX5_dishes, Cond.instanceMethod yX5_dishes, Cond.selects RX5 yX5_dishes yX5_dishes, Cond.code yX5_dishes cX5_dishes 2 (some .int), Cond.methodLink RL 44 yX6_dishes, Cond.instanceMethod yX6_dishes, Cond.selects RX6 yX6_dishes yX6_dishes, Cond.code yX6_dishes cX6_dishes 2 (some .int), Cond.methodLink RL 45 yX5_taste, Cond.instanceMethod yX5_taste]
def wsL_law0_r16 : List Cond := [Cond.selects RX5 yX5_taste yX5_taste, Cond.code yX5_taste cX5_taste 5 (some .long), Cond.constantLong RX5 123 (-1000000001), Cond.fieldLink RX5 125 "ThirdOfTheLast$Flavour" "above" "[J", Cond.fieldLink RX5 129 "ThirdOfTheLast$Flavour" "below" "J", Cond.methodLink RX5 120 yX5_isNoTaste, Cond.static yX5_isNoTaste, Cond.code yX5_isNoTaste cX5_isNoTaste 1 (some .boolean), Cond.methodLink RX5 133 yX5_inLeastTerms, Cond.static yX5_inLeastTerms, Cond.code yX5_inLeastTerms cX5_inLeastTerms 10 (some .long), Cond.constantLong RX5 324 (3), Cond.methodLink RL 49 yX6_taste, Cond.instanceMethod yX6_taste, Cond.selects RX6 yX6_taste yX6_taste, Cond.code yX6_taste cX6_taste 4 (some .long), Cond.constantLong RX6 195 (3), Cond.constantLong RX6 197 (-1000000001), Cond.methodLink RX6 199 yX6_least, Cond.static yX6_least, Cond.code yX6_least cX6_least 11 (some .long), Cond.methodLink RL 50 yX5_all, Cond.instanceMethod yX5_all, Cond.selects RX5 yX5_all yX5_all]
def wsL_law0_r17 : List Cond := [Cond.code yX5_all cX5_all 4 (some .long), Cond.methodLink RX5 137 yX0_totalAbove, Cond.instanceMethod yX0_totalAbove, Cond.selects RX0 yX0_totalAbove yX0_totalAbove, Cond.code yX0_totalAbove cX0_totalAbove 4 (some .long), Cond.methodLink RL 53 yX6_all, Cond.instanceMethod yX6_all, Cond.selects RX6 yX6_all yX6_all, Cond.code yX6_all cX6_all 3 (some .long), Cond.methodLink RX6 106 yX6_allOf, Cond.instanceMethod yX6_allOf, Cond.selects RX6 yX6_allOf yX6_allOf, Cond.code yX6_allOf cX6_allOf 5 (some .long), Cond.methodLink RL 54 yX5_portion, Cond.instanceMethod yX5_portion, Cond.selects RX5 yX5_portion yX5_portion, Cond.code yX5_portion cX5_portion 3 (some .int), Cond.methodLink RX5 141 yX0_portionOf, Cond.instanceMethod yX0_portionOf, Cond.selects RX0 yX0_portionOf yX0_portionOf, Cond.code yX0_portionOf cX0_portionOf 4 (some .int), Cond.constantLong RX0 45 (100), Cond.methodLink RX0 41 yX0_totalAbove, Cond.methodLink RL 57 yX6_portion]
def wsL_law0_r18 : List Cond := [Cond.instanceMethod yX6_portion, Cond.selects RX6 yX6_portion yX6_portion, Cond.code yX6_portion cX6_portion 3 (some .int), Cond.methodLink RX6 203 yX6_portionOf, Cond.instanceMethod yX6_portionOf, Cond.selects RX6 yX6_portionOf yX6_portionOf, Cond.code yX6_portionOf cX6_portionOf 5 (some .int), Cond.constantLong RX6 109 (100), Cond.methodLink RL 58 yX5_over, Cond.instanceMethod yX5_over, Cond.selects RX5 yX5_over yX5_over, Cond.code yX5_over cX5_over 4 (some .int), Cond.methodLink RX5 144 yX5_isNoPercent, Cond.static yX5_isNoPercent, Cond.code yX5_isNoPercent cX5_isNoPercent 1 (some .boolean), Cond.methodLink RX5 147 yX0_isOver, Cond.instanceMethod yX0_isOver, Cond.selects RX0 yX0_isOver yX0_isOver, Cond.code yX0_isOver cX0_isOver 3 (some .boolean), Cond.methodLink RL 61 yX6_over, Cond.instanceMethod yX6_over, Cond.selects RX6 yX6_over yX6_over, Cond.code yX6_over cX6_over 4 (some .int), Cond.methodLink RX6 111 yX6_isOver]
def wsL_law0_r19 : List Cond := [Cond.instanceMethod yX6_isOver, Cond.selects RX6 yX6_isOver yX6_isOver, Cond.code yX6_isOver cX6_isOver 4 (some .boolean), Cond.methodLink RL 62 yX5_part, Cond.instanceMethod yX5_part, Cond.selects RX5 yX5_part yX5_part, Cond.code yX5_part cX5_part 4 (some .long), Cond.methodLink RX5 150 yX3_leftAbove, Cond.instanceMethod yX3_leftAbove, Cond.selects RX3 yX3_leftAbove yX3_leftAbove, Cond.code yX3_leftAbove cX3_leftAbove 5 (some .long), Cond.methodLink RX3 47 yX3_kindOf, Cond.methodLink RX5 154 yX5_powerOfNine, Cond.static yX5_powerOfNine, Cond.code yX5_powerOfNine cX5_powerOfNine 4 (some .long), Cond.constantLong RX5 249 (9), Cond.methodLink RL 65 yX6_part, Cond.instanceMethod yX6_part, Cond.selects RX6 yX6_part yX6_part, Cond.code yX6_part cX6_part 4 (some .long), Cond.methodLink RX6 206 yX6_partOf, Cond.instanceMethod yX6_partOf, Cond.selects RX6 yX6_partOf yX6_partOf, Cond.code yX6_partOf cX6_partOf 6 (some .long)]
def wsL_law0_r20 : List Cond := [Cond.methodLink RL 66 yX5_back, Cond.instanceMethod yX5_back, Cond.selects RX5 yX5_back yX5_back, Cond.code yX5_back cX5_back 5 (some .int), Cond.constantLong RX5 160 (100), Cond.methodLink RX5 157 yX5_isNoHundredth, Cond.static yX5_isNoHundredth, Cond.code yX5_isNoHundredth cX5_isNoHundredth 1 (some .boolean), Cond.methodLink RL 69 yX6_back, Cond.instanceMethod yX6_back, Cond.selects RX6 yX6_back yX6_back, Cond.code yX6_back cX6_back 4 (some .int), Cond.methodLink RL 70 yX5_strongest, Cond.instanceMethod yX5_strongest, Cond.selects RX5 yX5_strongest yX5_strongest, Cond.code yX5_strongest cX5_strongest 2 (some .int), Cond.methodLink RX5 162 yX0_mostTaste, Cond.instanceMethod yX0_mostTaste, Cond.selects RX0 yX0_mostTaste yX0_mostTaste, Cond.code yX0_mostTaste cX0_mostTaste 3 (some .int), Cond.methodLink RL 73 yX6_strongest, Cond.instanceMethod yX6_strongest, Cond.selects RX6 yX6_strongest yX6_strongest, Cond.code yX6_strongest cX6_strongest 4 (some .int)]
def wsL_law0_r21 : List Cond := [Cond.methodLink RL 74 yX5_harms, Cond.instanceMethod yX5_harms, Cond.selects RX5 yX5_harms yX5_harms, Cond.code yX5_harms cX5_harms 4 (some .int), Cond.methodLink RX5 166 yX5_isNoBans, Cond.static yX5_isNoBans, Cond.code yX5_isNoBans cX5_isNoBans 1 (some .boolean), Cond.methodLink RX5 169 yX0_isHarmful, Cond.instanceMethod yX0_isHarmful, Cond.selects RX0 yX0_isHarmful yX0_isHarmful, Cond.code yX0_isHarmful cX0_isHarmful 6 (some .boolean), Cond.methodLink RL 77 yX6_harms, Cond.instanceMethod yX6_harms, Cond.selects RX6 yX6_harms yX6_harms, Cond.code yX6_harms cX6_harms 4 (some .int), Cond.methodLink RX6 212 yX6_isLine, Cond.static yX6_isLine, Cond.code yX6_isLine cX6_isLine 2 (some .boolean), Cond.constantLong RX6 210 (15), Cond.methodLink RX6 216 yX6_doesHarm, Cond.instanceMethod yX6_doesHarm, Cond.selects RX6 yX6_doesHarm yX6_doesHarm, Cond.code yX6_doesHarm cX6_doesHarm 6 (some .boolean), Cond.methodLink RL 78 yX5_first]
def wsL_law0_r22 : List Cond := [Cond.instanceMethod yX5_first, Cond.selects RX5 yX5_first yX5_first, Cond.code yX5_first cX5_first 6 (some .int), Cond.methodLink RX5 172 yX5_isPlan, Cond.instanceMethod yX5_isPlan, Cond.selects RX5 yX5_isPlan yX5_isPlan, Cond.code yX5_isPlan cX5_isPlan 3 (some .boolean), Cond.methodLink RX5 318 yX4_hasDishAt, Cond.instanceMethod yX4_hasDishAt, Cond.selects RX4 yX4_hasDishAt yX4_hasDishAt, Cond.code yX4_hasDishAt cX4_hasDishAt 2 (some .boolean), Cond.methodLink RX5 176 yX2_thinkOf, Cond.instanceMethod yX2_thinkOf, Cond.selects RX2 yX2_thinkOf yX2_thinkOf, Cond.code yX2_thinkOf cX2_thinkOf 5 none, Cond.fieldLink RX2 21 "ThirdOfTheLast$Kitchen" "size" "I", Cond.fieldLink RX2 27 "ThirdOfTheLast$Mind" "size" "I", Cond.fieldLink RX2 28 "ThirdOfTheLast$Mind" "bans" "I", Cond.fieldLink RX2 31 "ThirdOfTheLast$Mind" "p" "I", Cond.fieldLink RX2 34 "ThirdOfTheLast$Kitchen" "pots" "[LThirdOfTheLast$Pot;", Cond.fieldLink RX2 37 "ThirdOfTheLast$Pot" "flavour" "LThirdOfTheLast$Flavour;", Cond.methodLink RX2 43 yX0_become, Cond.methodLink RX5 180 yX2_firstHarm, Cond.instanceMethod yX2_firstHarm]
def wsL_law0_r23 : List Cond := [Cond.selects RX2 yX2_firstHarm yX2_firstHarm, Cond.code yX2_firstHarm cX2_firstHarm 4 (some .int), Cond.fieldLink RX2 47 "ThirdOfTheLast$Shelf" "size" "I", Cond.fieldLink RX2 50 "ThirdOfTheLast$Shelf" "elements" "[I", Cond.methodLink RX2 54 yX2_staysGood, Cond.instanceMethod yX2_staysGood, Cond.selects RX2 yX2_staysGood yX2_staysGood, Cond.code yX2_staysGood cX2_staysGood 4 (some .boolean), Cond.methodLink RX2 68 yX0_hasRoom, Cond.methodLink RX2 72 yX4_elementOr, Cond.methodLink RX2 76 yX0_takeIn, Cond.methodLink RX2 80 yX0_isHarmful, Cond.methodLink RL 81 yX6_first, Cond.instanceMethod yX6_first, Cond.selects RX6 yX6_first yX6_first, Cond.code yX6_first cX6_first 9 (some .int), Cond.methodLink RX6 219 yX6_wrongDishes, Cond.instanceMethod yX6_wrongDishes, Cond.selects RX6 yX6_wrongDishes yX6_wrongDishes, Cond.code yX6_wrongDishes cX6_wrongDishes 8 (some .int), Cond.methodLink RX6 222 yX6_element0, Cond.instanceMethod yX6_element0, Cond.selects RX6 yX6_element0 yX6_element0, Cond.code yX6_element0 cX6_element0 3 (some .int)]
def wsL_law0_r24 : List Cond := [Cond.methodLink RL 82 yX5_week, Cond.instanceMethod yX5_week, Cond.selects RX5 yX5_week yX5_week, Cond.code yX5_week cX5_week 7 (some .int), Cond.fieldLink RX5 193 "ThirdOfTheLast$Mind" "ways" "I", Cond.fieldLink RX5 196 "ThirdOfTheLast$Mind" "firstWay" "I", Cond.methodLink RX5 186 yX5_isRowOfDishes, Cond.static yX5_isRowOfDishes, Cond.code yX5_isRowOfDishes cX5_isRowOfDishes 2 (some .boolean), Cond.methodLink RX5 189 yX2_countWays, Cond.instanceMethod yX2_countWays, Cond.selects RX2 yX2_countWays yX2_countWays, Cond.code yX2_countWays cX2_countWays 2 none, Cond.fieldLink RX2 58 "ThirdOfTheLast$Mind" "ways" "I", Cond.fieldLink RX2 61 "ThirdOfTheLast$Mind" "firstWay" "I", Cond.methodLink RX2 64 yX2_spread, Cond.static yX2_spread, Cond.code yX2_spread cX2_spread 7 none, Cond.methodLink RL 86 yX6_week, Cond.instanceMethod yX6_week, Cond.selects RX6 yX6_week yX6_week, Cond.code yX6_week cX6_week 15 (some .int), Cond.methodLink RX6 225 yX6_power, Cond.static yX6_power]
def wsL_law0_r25 : List Cond := [Cond.code yX6_power cX6_power 4 (some .int), Cond.methodLink RL 87 yX5_bring, Cond.instanceMethod yX5_bring, Cond.selects RX5 yX5_bring yX5_bring, Cond.code yX5_bring cX5_bring 9 (some .int), Cond.methodLink RX5 199 yX5_isNoFigure, Cond.methodLink RX5 202 yX5_firstBringing, Cond.instanceMethod yX5_firstBringing, Cond.selects RX5 yX5_firstBringing yX5_firstBringing, Cond.code yX5_firstBringing cX5_firstBringing 8 (some .int), Cond.methodLink RX5 209 yX5_codesOf, Cond.static yX5_codesOf, Cond.code yX5_codesOf cX5_codesOf 1 (some .int), Cond.methodLink RX5 212 yX0_become, Cond.methodLink RX5 215 yX0_takeCode, Cond.instanceMethod yX0_takeCode, Cond.selects RX0 yX0_takeCode yX0_takeCode, Cond.code yX0_takeCode cX0_takeCode 5 none, Cond.static yX5_kindIn, Cond.code yX5_kindIn cX5_kindIn 2 (some .int), Cond.methodLink RX0 37 yX0_takeIn, Cond.methodLink RX5 206 yX5_firstKind, Cond.static yX5_firstKind, Cond.code yX5_firstKind cX5_firstKind 2 (some .int)]
def wsL_law0_r26 : List Cond := [Cond.methodLink RX5 321 yX5_kindIn, Cond.methodLink RL 91 yX6_bring, Cond.instanceMethod yX6_bring, Cond.selects RX6 yX6_bring yX6_bring, Cond.code yX6_bring cX6_bring 8 (some .int), Cond.methodLink RX6 228 yX6_cooksCode, Cond.instanceMethod yX6_cooksCode, Cond.selects RX6 yX6_cooksCode yX6_cooksCode, Cond.code yX6_cooksCode cX6_cooksCode 7 (some .boolean), Cond.methodLink RL 92 yX5_mayHave, Cond.instanceMethod yX5_mayHave, Cond.selects RX5 yX5_mayHave yX5_mayHave, Cond.code yX5_mayHave cX5_mayHave 10 (some .int), Cond.methodLink RX5 219 yX0_clear, Cond.methodLink RX5 222 yX0_isLike, Cond.instanceMethod yX0_isLike, Cond.selects RX0 yX0_isLike yX0_isLike, Cond.code yX0_isLike cX0_isLike 3 (some .boolean), Cond.methodLink RX5 226 yX5_digitsOf, Cond.static yX5_digitsOf, Cond.code yX5_digitsOf cX5_digitsOf 4 (some .int), Cond.methodLink RL 95 yX6_mayHave, Cond.instanceMethod yX6_mayHave, Cond.selects RX6 yX6_mayHave yX6_mayHave]
def wsL_law0_r27 : List Cond := [Cond.code yX6_mayHave cX6_mayHave 11 (some .int), Cond.methodLink RX6 231 yX6_digitsOf, Cond.static yX6_digitsOf, Cond.code yX6_digitsOf cX6_digitsOf 5 (some .int), Cond.methodLink RL 96 yX5_tells, Cond.instanceMethod yX5_tells, Cond.selects RX5 yX5_tells yX5_tells, Cond.code yX5_tells cX5_tells 6 (some .int), Cond.methodLink RX5 229 yX5_mostAlike, Cond.instanceMethod yX5_mostAlike, Cond.selects RX5 yX5_mostAlike yX5_mostAlike, Cond.code yX5_mostAlike cX5_mostAlike 6 (some .int), Cond.methodLink RX5 232 Lib.Math.max.name, Cond.static Lib.Math.max.name, Cond.initialized "java/lang/Math", Cond.code Lib.Math.max.name Lib.Math.max.code 2 (some .int), Cond.methodLink RL 99 yX6_tells, Cond.instanceMethod yX6_tells, Cond.selects RX6 yX6_tells yX6_tells, Cond.code yX6_tells cX6_tells 4 (some .int), Cond.methodLink RX6 234 yX6_alikeIn, Cond.instanceMethod yX6_alikeIn, Cond.selects RX6 yX6_alikeIn yX6_alikeIn, Cond.code yX6_alikeIn cX6_alikeIn 6 (some .int)]
def wsL_law0_r28 : List Cond := [Cond.methodLink RL 100 yX5_lent, Cond.instanceMethod yX5_lent, Cond.selects RX5 yX5_lent yX5_lent, Cond.code yX5_lent cX5_lent 8 (some .int), Cond.constant RX5 237 (-1000000001), Cond.constant RX5 238 (-1000000000), Cond.methodLink RX5 239 yX0_takeIn, Cond.methodLink RL 103 yX6_lent, Cond.instanceMethod yX6_lent, Cond.selects RX6 yX6_lent yX6_lent, Cond.code yX6_lent cX6_lent 6 (some .int), Cond.constant RX6 237 (1000000000), Cond.methodLink RL 104 yX5_gone, Cond.instanceMethod yX5_gone, Cond.selects RX5 yX5_gone yX5_gone, Cond.code yX5_gone cX5_gone 9 (some .int), Cond.methodLink RX5 243 yX5_isNoKind, Cond.methodLink RX5 246 yX5_keepsOf, Cond.methodLink RL 107 yX6_gone, Cond.instanceMethod yX6_gone, Cond.selects RX6 yX6_gone yX6_gone, Cond.code yX6_gone cX6_gone 9 (some .int), Cond.methodLink RL 108 yX5_seeded, Cond.instanceMethod yX5_seeded]
def wsL_law0_r29 : List Cond := [Cond.selects RX5 yX5_seeded yX5_seeded, Cond.code yX5_seeded cX5_seeded 7 (some .int), Cond.methodLink RX5 251 yX5_nextSeed, Cond.static yX5_nextSeed, Cond.code yX5_nextSeed cX5_nextSeed 1 (some .int), Cond.constant RX5 326 (1103515245), Cond.methodLink RX5 254 yX5_drawOf, Cond.static yX5_drawOf, Cond.code yX5_drawOf cX5_drawOf 1 (some .int), Cond.constant RX5 327 (2147483647), Cond.constant RX5 328 (65536), Cond.methodLink RL 111 yX6_seeded, Cond.instanceMethod yX6_seeded, Cond.selects RX6 yX6_seeded yX6_seeded, Cond.code yX6_seeded cX6_seeded 6 (some .int), Cond.constantLong RX6 244 (12), Cond.fieldLink RX6 238 "ThirdOfTheLastModel" "seed" "I", Cond.methodLink RX6 246 yX6_draw, Cond.instanceMethod yX6_draw, Cond.selects RX6 yX6_draw yX6_draw, Cond.code yX6_draw cX6_draw 2 (some .int), Cond.constant RX6 241 (1103515245), Cond.constant RX6 242 (2147483647), Cond.constant RX6 243 (65536)]
def wsL_law0_r30 : List Cond := [Cond.methodLink RL 112 yX5_judge, Cond.instanceMethod yX5_judge, Cond.selects RX5 yX5_judge yX5_judge, Cond.code yX5_judge cX5_judge 9 (some .int), Cond.methodLink RX5 260 Lib.Math.min.name, Cond.static Lib.Math.min.name, Cond.code Lib.Math.min.name Lib.Math.min.code 2 (some .int), Cond.fieldLink RX5 266 "ThirdOfTheLast$Shelf" "elements" "[I", Cond.methodLink RX5 263 yX4_leastNumber, Cond.instanceMethod yX4_leastNumber, Cond.selects RX4 yX4_leastNumber yX4_leastNumber, Cond.code yX4_leastNumber cX4_leastNumber 1 (some .int), Cond.fieldLink RX4 25 "ThirdOfTheLast$Shelf" "sort" "I", Cond.constant RX4 45 (-2147483648), Cond.methodLink RL 115 yX6_judge, Cond.instanceMethod yX6_judge, Cond.selects RX6 yX6_judge yX6_judge, Cond.code yX6_judge cX6_judge 6 (some .int), Cond.methodLink RX6 258 yX6_skippedIn, Cond.instanceMethod yX6_skippedIn, Cond.selects RX6 yX6_skippedIn yX6_skippedIn, Cond.code yX6_skippedIn cX6_skippedIn 2 (some .long), Cond.constantLong RX6 249 (-128), Cond.constantLong RX6 251 (-32768)]
def wsL_law0_r31 : List Cond := [Cond.constantLong RX6 253 (-2147483648), Cond.methodLink RL 116 yX5_image, Cond.instanceMethod yX5_image, Cond.selects RX5 yX5_image yX5_image, Cond.code yX5_image cX5_image 1 (some .int), Cond.fieldLink RX5 269 "ThirdOfTheLast" "isKept" "Z", Cond.methodLink RL 119 yX6_image, Cond.instanceMethod yX6_image, Cond.selects RX6 yX6_image yX6_image, Cond.code yX6_image cX6_image 1 (some .int), Cond.fieldLink RX6 126 "ThirdOfTheLastModel" "hasImage" "Z", Cond.fieldLink RX6 130 "ThirdOfTheLastModel" "imagedPots" "I", Cond.methodLink RL 120 yX5_restore, Cond.instanceMethod yX5_restore, Cond.selects RX5 yX5_restore yX5_restore, Cond.code yX5_restore cX5_restore 1 (some .int), Cond.methodLink RL 123 yX6_restore, Cond.instanceMethod yX6_restore, Cond.selects RX6 yX6_restore yX6_restore, Cond.code yX6_restore cX6_restore 1 (some .int), Cond.methodLink RL 124 yX5_count, Cond.instanceMethod yX5_count, Cond.selects RX5 yX5_count yX5_count, Cond.code yX5_count cX5_count 5 (some .int)]
def wsL_law0_r32 : List Cond := [Cond.methodLink RX5 273 yX3_howManyOf, Cond.instanceMethod yX3_howManyOf, Cond.selects RX3 yX3_howManyOf yX3_howManyOf, Cond.code yX3_howManyOf cX3_howManyOf 4 (some .int), Cond.methodLink RL 127 yX6_count, Cond.instanceMethod yX6_count, Cond.selects RX6 yX6_count yX6_count, Cond.code yX6_count cX6_count 7 (some .int), Cond.methodLink RL 128 yX5_keep, Cond.instanceMethod yX5_keep, Cond.selects RX5 yX5_keep yX5_keep, Cond.code yX5_keep cX5_keep 5 (some .int), Cond.methodLink RX5 276 yX4_holdNothing, Cond.instanceMethod yX4_holdNothing, Cond.selects RX4 yX4_holdNothing yX4_holdNothing, Cond.code yX4_holdNothing cX4_holdNothing 1 none, Cond.methodLink RX5 279 yX4_holdDish, Cond.instanceMethod yX4_holdDish, Cond.selects RX4 yX4_holdDish yX4_holdDish, Cond.code yX4_holdDish cX4_holdDish 3 none, Cond.fieldLink RX4 19 "ThirdOfTheLast$Shelf" "kind" "I", Cond.fieldLink RX4 22 "ThirdOfTheLast$Shelf" "figure" "I", Cond.methodLink RL 131 yX6_keep, Cond.instanceMethod yX6_keep]
def wsL_law0_r33 : List Cond := [Cond.selects RX6 yX6_keep yX6_keep, Cond.code yX6_keep cX6_keep 5 (some .int), Cond.methodLink RL 132 yX5_row, Cond.instanceMethod yX5_row, Cond.selects RX5 yX5_row yX5_row, Cond.code yX5_row cX5_row 4 (some .int), Cond.methodLink RX5 282 yX4_holdRow, Cond.instanceMethod yX4_holdRow, Cond.selects RX4 yX4_holdRow yX4_holdRow, Cond.code yX4_holdRow cX4_holdRow 4 none, Cond.methodLink RL 135 yX6_row, Cond.instanceMethod yX6_row, Cond.selects RX6 yX6_row yX6_row, Cond.code yX6_row cX6_row 5 (some .int), Cond.constantLong RX6 261 (2), Cond.methodLink RL 136 yX5_put, Cond.instanceMethod yX5_put, Cond.selects RX5 yX5_put yX5_put, Cond.code yX5_put cX5_put 5 (some .int), Cond.methodLink RX5 285 yX4_hasElement, Cond.methodLink RX5 288 yX4_lowestBits, Cond.instanceMethod yX4_lowestBits, Cond.selects RX4 yX4_lowestBits yX4_lowestBits, Cond.code yX4_lowestBits cX4_lowestBits 2 (some .int)]
def wsL_law0_r34 : List Cond := [Cond.methodLink RL 139 yX6_put, Cond.instanceMethod yX6_put, Cond.selects RX6 yX6_put yX6_put, Cond.code yX6_put cX6_put 5 (some .int), Cond.methodLink RX6 263 yX6_narrowed, Cond.static yX6_narrowed, Cond.code yX6_narrowed cX6_narrowed 2 (some .long), Cond.methodLink RL 140 yL_element, Cond.static yL_element, Cond.initialized RL, Cond.codeWith yL_element cL_element 5 (some .int) [(0, 9, 12, 13), (0, 9, 16, 15)], Cond.classLink RL 13 "java/lang/IllegalArgumentException", Cond.classLink RL 15 "java/lang/IllegalStateException", Cond.methodLink RL 7 yX5_element, Cond.instanceMethod yX5_element, Cond.selects RX5 yX5_element yX5_element, Cond.code yX5_element cX5_element 3 (some .long), Cond.classLink RX5 291 "java/lang/IllegalArgumentException", Cond.initialized "java/lang/IllegalArgumentException", Cond.classLink RX5 297 "java/lang/IllegalStateException", Cond.initialized "java/lang/IllegalStateException", Cond.methodLink RL 145 yX6_element, Cond.instanceMethod yX6_element, Cond.selects RX6 yX6_element yX6_element]
def wsL_law0_r35 : List Cond := [Cond.code yX6_element cX6_element 4 (some .long), Cond.methodLink RL 146 yX6_thrown, Cond.instanceMethod yX6_thrown, Cond.selects RX6 yX6_thrown yX6_thrown, Cond.code yX6_thrown cX6_thrown 1 (some .int), Cond.methodLink RL 149 yX5_copy, Cond.instanceMethod yX5_copy, Cond.selects RX5 yX5_copy yX5_copy, Cond.code yX5_copy cX5_copy 8 (some .int), Cond.methodLink RX5 309 arraycopyName, Cond.methodLink RX5 306 yX4_hasElements, Cond.instanceMethod yX4_hasElements, Cond.selects RX4 yX4_hasElements yX4_hasElements, Cond.code yX4_hasElements cX4_hasElements 3 (some .boolean), Cond.methodLink RL 152 yX6_copy, Cond.instanceMethod yX6_copy, Cond.selects RX6 yX6_copy yX6_copy, Cond.code yX6_copy cX6_copy 7 (some .int), Cond.methodLink RL 153 yX5_price, Cond.instanceMethod yX5_price, Cond.selects RX5 yX5_price yX5_price, Cond.code yX5_price cX5_price 3 (some .int), Cond.methodLink RX5 315 yX5_priceOf, Cond.static yX5_priceOf]
def wsL_law0_r36 : List Cond := [Cond.code yX5_priceOf cX5_priceOf 5 (some .int), Cond.methodLink RL 156 yX6_price, Cond.instanceMethod yX6_price, Cond.selects RX6 yX6_price yX6_price, Cond.code yX6_price cX6_price 2 (some .int), Cond.methodLink RX6 266 yX6_priceOf, Cond.static yX6_priceOf, Cond.code yX6_priceOf cX6_priceOf 2 (some .int), Cond.methodLink RL 157 yX5_toss, Cond.instanceMethod yX5_toss, Cond.selects RX5 yX5_toss yX5_toss, Cond.code yX5_toss cX5_toss 5 (some .int), Cond.methodLink RL 160 yX6_toss, Cond.instanceMethod yX6_toss, Cond.selects RX6 yX6_toss yX6_toss, Cond.code yX6_toss cX6_toss 4 (some .int)]
def wsL_law0 : List Cond := (wsL_law0_r1 ++ (wsL_law0_r2 ++ (wsL_law0_r3 ++ (wsL_law0_r4 ++ (wsL_law0_r5 ++ (wsL_law0_r6 ++ (wsL_law0_r7 ++ (wsL_law0_r8 ++ (wsL_law0_r9 ++ (wsL_law0_r10 ++ (wsL_law0_r11 ++ (wsL_law0_r12 ++ (wsL_law0_r13 ++ (wsL_law0_r14 ++ (wsL_law0_r15 ++ (wsL_law0_r16 ++ (wsL_law0_r17 ++ (wsL_law0_r18 ++ (wsL_law0_r19 ++ (wsL_law0_r20 ++ (wsL_law0_r21 ++ (wsL_law0_r22 ++ (wsL_law0_r23 ++ (wsL_law0_r24 ++ (wsL_law0_r25 ++ (wsL_law0_r26 ++ (wsL_law0_r27 ++ (wsL_law0_r28 ++ (wsL_law0_r29 ++ (wsL_law0_r30 ++ (wsL_law0_r31 ++ (wsL_law0_r32 ++ (wsL_law0_r33 ++ (wsL_law0_r34 ++ (wsL_law0_r35 ++ wsL_law0_r36))))))))))))))))))))))))))))))))))) ++ wsX50 ++ wsX60 ++ wsX10 ++ wsX20 ++ wsX00 ++ wsX40 ++ wsX30 ++ ([] : List Cond)
def wsL_law : List Cond := wsL_law0 ++ (vx_at0 RX5 293 "java/lang/IllegalArgumentException" ["java/lang/RuntimeException", "java/lang/Exception"]).filter goodWord ++ (vx_at0 RX5 299 "java/lang/IllegalStateException" ["java/lang/RuntimeException", "java/lang/Exception"]).filter goodWord
theorem places_in {big : List Cond} (ws : List Cond) (ps : List Nat) (hp : ws = ps.filterMap (fun i => big[i]?)) : ∀ w ∈ ws, w ∈ big := by
  intro w hw
  rw [hp] at hw
  obtain ⟨i, -, hi⟩ := List.mem_filterMap.mp hw
  exact List.mem_of_getElem? hi
set_option maxRecDepth 20000 in
theorem wsL_law0_r1_in : ∀ w ∈ wsL_law0_r1, w ∈ lw_tbl := places_in _ [51, 52, 37, 726, 727, 43, 92, 53, 54, 55, 56, 57, 58, 59, 60, 38, 187, 188, 189, 118, 119, 41, 191, 151] (by decide +kernel)
set_option maxRecDepth 20000 in
theorem wsL_law0_r2_in : ∀ w ∈ wsL_law0_r2, w ∈ lw_tbl := places_in _ [73, 40, 192, 106, 193, 153, 194, 155, 42, 61, 62, 63, 64, 65, 107, 67, 39, 69, 70, 71, 72, 93, 97, 98] (by decide +kernel)
set_option maxRecDepth 20000 in
theorem wsL_law0_r3_in : ∀ w ∈ wsL_law0_r3, w ∈ lw_tbl := places_in _ [75, 76, 77, 78, 80, 120, 121, 122, 123, 124, 127, 128, 157, 158, 159, 171, 728, 729, 730, 731, 733, 734, 735, 736] (by decide +kernel)
set_option maxRecDepth 20000 in
theorem wsL_law0_r4_in : ∀ w ∈ wsL_law0_r4, w ∈ lw_tbl := places_in _ [740, 741, 742, 743, 745, 746, 747, 748, 754, 755, 756, 758, 759, 760, 761, 762, 763, 764, 737, 212, 213, 214, 215, 167] (by decide +kernel)
set_option maxRecDepth 20000 in
theorem wsL_law0_r5_in : ∀ w ∈ wsL_law0_r5, w ∈ lw_tbl := places_in _ [216, 218, 0, 219, 166, 220, 222, 1, 223, 224, 225, 226, 227, 228, 229, 230, 160, 231, 232, 233, 234, 235, 236, 237] (by decide +kernel)
set_option maxRecDepth 20000 in
theorem wsL_law0_r6_in : ∀ w ∈ wsL_law0_r6, w ∈ lw_tbl := places_in _ [170, 238, 239, 240, 241, 242, 243, 244, 245, 169, 246, 247, 248, 249, 250, 251, 252, 253, 255, 256, 257, 258, 259, 260] (by decide +kernel)
set_option maxRecDepth 20000 in
theorem wsL_law0_r7_in : ∀ w ∈ wsL_law0_r7, w ∈ lw_tbl := places_in _ [111, 261, 262, 263, 264, 269, 271, 270, 44, 265, 266, 267, 268, 82, 272, 273, 274, 275, 276, 277, 278, 279, 95, 280] (by decide +kernel)
set_option maxRecDepth 20000 in
theorem wsL_law0_r8_in : ∀ w ∈ wsL_law0_r8, w ∈ lw_tbl := places_in _ [281, 282, 283, 284, 286, 2, 287, 288, 289, 290, 291, 293, 294, 295, 296, 297, 298, 83, 299, 300, 301, 302, 303, 304] (by decide +kernel)
set_option maxRecDepth 20000 in
theorem wsL_law0_r9_in : ∀ w ∈ wsL_law0_r9, w ∈ lw_tbl := places_in _ [305, 306, 310, 308, 309, 312, 313, 314, 316, 3, 317, 318, 320, 4, 321, 322, 323, 850, 851, 852, 853, 749, 750, 751] (by decide +kernel)
set_option maxRecDepth 20000 in
theorem wsL_law0_r10_in : ∀ w ∈ wsL_law0_r10, w ∈ lw_tbl := places_in _ [752, 753, 854, 856, 11, 857, 858, 860, 12, 861, 862, 863, 864, 865, 866, 868, 13, 869, 870, 872, 14, 873, 874, 876] (by decide +kernel)
set_option maxRecDepth 20000 in
theorem wsL_law0_r11_in : ∀ w ∈ wsL_law0_r11, w ∈ lw_tbl := places_in _ [15, 877, 878, 879, 880, 882, 16, 883, 732, 744, 840, 841, 842, 843, 844, 845, 884, 886, 17, 887, 888, 890, 18, 891] (by decide +kernel)
set_option maxRecDepth 20000 in
theorem wsL_law0_r12_in : ∀ w ∈ wsL_law0_r12, w ∈ lw_tbl := places_in _ [892, 894, 19, 895, 896, 898, 20, 899, 900, 902, 21, 903, 904, 905, 906, 907, 908, 909, 910, 911, 912, 913, 914, 916] (by decide +kernel)
set_option maxRecDepth 20000 in
theorem wsL_law0_r13_in : ∀ w ∈ wsL_law0_r13, w ∈ lw_tbl := places_in _ [22, 917, 918, 920, 23, 921, 324, 325, 326, 327, 112, 328, 922, 923, 924, 925, 329, 330, 331, 332, 109, 162, 164, 96] (by decide +kernel)
set_option maxRecDepth 20000 in
theorem wsL_law0_r14_in : ∀ w ∈ wsL_law0_r14, w ∈ lw_tbl := places_in _ [84, 333, 334, 336, 5, 337, 338, 926, 927, 928, 929, 930, 932, 24, 933, 339, 340, 341, 342, 343, 344, 345, 346, 347] (by decide +kernel)
set_option maxRecDepth 20000 in
theorem wsL_law0_r15_in : ∀ w ∈ wsL_law0_r15, w ∈ lw_tbl := places_in _ [348, 349, 350, 351, 352, 353, 354, 355, 356, 357, 934, 935, 936, 937, 358, 359, 360, 361, 938, 939, 940, 941, 362, 363] (by decide +kernel)
set_option maxRecDepth 20000 in
theorem wsL_law0_r16_in : ∀ w ∈ wsL_law0_r16, w ∈ lw_tbl := places_in _ [364, 365, 369, 79, 81, 366, 367, 368, 370, 371, 372, 373, 942, 943, 944, 945, 946, 947, 948, 949, 950, 374, 375, 376] (by decide +kernel)
set_option maxRecDepth 20000 in
theorem wsL_law0_r17_in : ∀ w ∈ wsL_law0_r17, w ∈ lw_tbl := places_in _ [377, 378, 379, 380, 381, 951, 952, 953, 954, 955, 957, 25, 958, 382, 383, 384, 385, 386, 387, 388, 389, 391, 390, 959] (by decide +kernel)
set_option maxRecDepth 20000 in
theorem wsL_law0_r18_in : ∀ w ∈ wsL_law0_r18, w ∈ lw_tbl := places_in _ [960, 961, 962, 963, 965, 26, 966, 967, 392, 393, 394, 395, 396, 397, 398, 399, 400, 401, 402, 968, 969, 970, 971, 972] (by decide +kernel)
set_option maxRecDepth 20000 in
theorem wsL_law0_r19_in : ∀ w ∈ wsL_law0_r19, w ∈ lw_tbl := places_in _ [974, 27, 975, 403, 404, 405, 406, 407, 408, 409, 410, 411, 413, 414, 415, 416, 976, 977, 978, 979, 980, 982, 28, 983] (by decide +kernel)
set_option maxRecDepth 20000 in
theorem wsL_law0_r20_in : ∀ w ∈ wsL_law0_r20, w ∈ lw_tbl := places_in _ [417, 418, 419, 420, 424, 421, 422, 423, 984, 985, 986, 987, 425, 426, 427, 428, 429, 430, 431, 432, 988, 989, 990, 991] (by decide +kernel)
set_option maxRecDepth 20000 in
theorem wsL_law0_r21_in : ∀ w ∈ wsL_law0_r21, w ∈ lw_tbl := places_in _ [433, 434, 435, 436, 437, 438, 439, 440, 441, 442, 443, 992, 993, 994, 995, 996, 997, 998, 999, 1000, 1002, 29, 1003, 444] (by decide +kernel)
set_option maxRecDepth 20000 in
theorem wsL_law0_r22_in : ∀ w ∈ wsL_law0_r22, w ∈ lw_tbl := places_in _ [445, 446, 447, 448, 450, 6, 451, 452, 453, 454, 455, 458, 459, 460, 461, 110, 129, 130, 131, 108, 94, 462, 463, 464] (by decide +kernel)
set_option maxRecDepth 20000 in
theorem wsL_law0_r23_in : ∀ w ∈ wsL_law0_r23, w ∈ lw_tbl := places_in _ [465, 466, 168, 172, 467, 469, 7, 470, 471, 472, 473, 474, 1004, 1005, 1006, 1007, 1008, 1010, 30, 1011, 1012, 1014, 31, 1015] (by decide +kernel)
set_option maxRecDepth 20000 in
theorem wsL_law0_r24_in : ∀ w ∈ wsL_law0_r24, w ∈ lw_tbl := places_in _ [475, 476, 477, 478, 133, 135, 479, 480, 481, 482, 483, 484, 485, 132, 134, 486, 487, 488, 1016, 1017, 1018, 1019, 1020, 1021] (by decide +kernel)
set_option maxRecDepth 20000 in
theorem wsL_law0_r25_in : ∀ w ∈ wsL_law0_r25, w ∈ lw_tbl := places_in _ [1022, 489, 490, 491, 492, 493, 494, 496, 8, 497, 498, 499, 500, 501, 502, 503, 504, 505, 507, 508, 509, 510, 511, 512] (by decide +kernel)
set_option maxRecDepth 20000 in
theorem wsL_law0_r26_in : ∀ w ∈ wsL_law0_r26, w ∈ lw_tbl := places_in _ [513, 1023, 1024, 1025, 1026, 1027, 1029, 32, 1030, 514, 515, 516, 517, 518, 519, 520, 521, 522, 523, 524, 525, 1031, 1032, 1033] (by decide +kernel)
set_option maxRecDepth 20000 in
theorem wsL_law0_r27_in : ∀ w ∈ wsL_law0_r27, w ∈ lw_tbl := places_in _ [1034, 1035, 1036, 1037, 526, 527, 528, 529, 530, 532, 9, 533, 534, 535, 45, 536, 1038, 1039, 1040, 1041, 1042, 1044, 33, 1045] (by decide +kernel)
set_option maxRecDepth 20000 in
theorem wsL_law0_r28_in : ∀ w ∈ wsL_law0_r28, w ∈ lw_tbl := places_in _ [537, 538, 539, 540, 541, 542, 543, 1046, 1047, 1048, 1049, 1050, 544, 545, 546, 547, 548, 549, 1051, 1052, 1053, 1054, 550, 551] (by decide +kernel)
set_option maxRecDepth 20000 in
theorem wsL_law0_r29_in : ∀ w ∈ wsL_law0_r29, w ∈ lw_tbl := places_in _ [552, 553, 554, 555, 556, 557, 558, 559, 560, 561, 562, 1055, 1056, 1057, 1058, 1059, 757, 1060, 1062, 34, 1063, 1064, 1065, 1066] (by decide +kernel)
set_option maxRecDepth 20000 in
theorem wsL_law0_r30_in : ∀ w ∈ wsL_law0_r30, w ∈ lw_tbl := places_in _ [563, 564, 565, 566, 567, 568, 569, 173, 570, 571, 572, 573, 165, 574, 1067, 1068, 1069, 1070, 1071, 1073, 35, 1074, 1075, 1076] (by decide +kernel)
set_option maxRecDepth 20000 in
theorem wsL_law0_r31_in : ∀ w ∈ wsL_law0_r31, w ∈ lw_tbl := places_in _ [1077, 575, 576, 577, 578, 190, 836, 837, 838, 839, 739, 738, 579, 580, 581, 582, 846, 847, 848, 849, 583, 584, 585, 586] (by decide +kernel)
set_option maxRecDepth 20000 in
theorem wsL_law0_r32_in : ∀ w ∈ wsL_law0_r32, w ∈ lw_tbl := places_in _ [587, 588, 589, 590, 1078, 1079, 1080, 1081, 591, 592, 593, 594, 595, 596, 597, 598, 599, 600, 601, 602, 161, 163, 1082, 1083] (by decide +kernel)
set_option maxRecDepth 20000 in
theorem wsL_law0_r33_in : ∀ w ∈ wsL_law0_r33, w ∈ lw_tbl := places_in _ [1084, 1085, 603, 604, 605, 606, 607, 608, 609, 610, 1086, 1087, 1088, 1089, 1090, 611, 612, 613, 614, 615, 616, 617, 618, 619] (by decide +kernel)
set_option maxRecDepth 20000 in
theorem wsL_law0_r34_in : ∀ w ∈ wsL_law0_r34, w ∈ lw_tbl := places_in _ [1091, 1092, 1093, 1094, 1095, 1096, 1097, 640, 641, 36, 642, 643, 644, 645, 646, 647, 648, 649, 49, 711, 50, 1098, 1099, 1100] (by decide +kernel)
set_option maxRecDepth 20000 in
theorem wsL_law0_r35_in : ∀ w ∈ wsL_law0_r35, w ∈ lw_tbl := places_in _ [1101, 832, 833, 834, 835, 620, 621, 622, 623, 628, 624, 625, 626, 627, 1102, 1103, 1104, 1105, 629, 630, 631, 632, 633, 634] (by decide +kernel)
set_option maxRecDepth 20000 in
theorem wsL_law0_r36_in : ∀ w ∈ wsL_law0_r36, w ∈ lw_tbl := places_in _ [635, 1106, 1107, 1108, 1109, 1110, 1111, 1112, 636, 637, 638, 639, 1113, 1114, 1115, 1116] (by decide +kernel)
set_option maxRecDepth 20000 in
theorem wsX00_in0 : ∀ w ∈ wsX00, w ∈ lw_tbl := places_in _ [85, 87, 89] (by decide +kernel)
set_option maxRecDepth 20000 in
theorem wsX10_in0 : ∀ w ∈ wsX10, w ∈ lw_tbl := places_in _ [113, 115] (by decide +kernel)
set_option maxRecDepth 20000 in
theorem wsX20_in0 : ∀ w ∈ wsX20, w ∈ lw_tbl := places_in _ [136, 138, 140, 142, 144, 146, 148] (by decide +kernel)
set_option maxRecDepth 20000 in
theorem wsX30_in0 : ∀ w ∈ wsX30, w ∈ lw_tbl := places_in _ [99, 101, 103] (by decide +kernel)
set_option maxRecDepth 20000 in
theorem wsX40_in0 : ∀ w ∈ wsX40, w ∈ lw_tbl := places_in _ [174, 176, 178, 180, 182, 184] (by decide +kernel)
set_option maxRecDepth 20000 in
theorem wsX50_in0 : ∀ w ∈ wsX50, w ∈ lw_tbl := places_in _ [195, 197, 199, 201, 203, 205, 207, 209] (by decide +kernel)
set_option maxRecDepth 20000 in
theorem wsX60_in0 : ∀ w ∈ wsX60, w ∈ lw_tbl := places_in _ [765, 767, 769, 771, 773, 775, 777, 779, 781, 783, 785, 787, 789, 791, 793, 795, 797, 799, 801, 803, 805, 807, 809, 811, 813, 815, 817, 819, 821, 823, 825, 827, 829] (by decide +kernel)
theorem app_in {big a b : List Cond} (ha : ∀ w ∈ a, w ∈ big) (hb : ∀ w ∈ b, w ∈ big) : ∀ w ∈ a ++ b, w ∈ big := fun w h => (List.mem_append.mp h).elim (ha w) (hb w)
theorem wsL_law_in0 : ∀ w ∈ wsL_law0, w ∈ lw_tbl := (app_in (app_in (app_in (app_in (app_in (app_in (app_in (app_in (app_in wsL_law0_r1_in (app_in wsL_law0_r2_in (app_in wsL_law0_r3_in (app_in wsL_law0_r4_in (app_in wsL_law0_r5_in (app_in wsL_law0_r6_in (app_in wsL_law0_r7_in (app_in wsL_law0_r8_in (app_in wsL_law0_r9_in (app_in wsL_law0_r10_in (app_in wsL_law0_r11_in (app_in wsL_law0_r12_in (app_in wsL_law0_r13_in (app_in wsL_law0_r14_in (app_in wsL_law0_r15_in (app_in wsL_law0_r16_in (app_in wsL_law0_r17_in (app_in wsL_law0_r18_in (app_in wsL_law0_r19_in (app_in wsL_law0_r20_in (app_in wsL_law0_r21_in (app_in wsL_law0_r22_in (app_in wsL_law0_r23_in (app_in wsL_law0_r24_in (app_in wsL_law0_r25_in (app_in wsL_law0_r26_in (app_in wsL_law0_r27_in (app_in wsL_law0_r28_in (app_in wsL_law0_r29_in (app_in wsL_law0_r30_in (app_in wsL_law0_r31_in (app_in wsL_law0_r32_in (app_in wsL_law0_r33_in (app_in wsL_law0_r34_in (app_in wsL_law0_r35_in wsL_law0_r36_in))))))))))))))))))))))))))))))))))) wsX50_in0) wsX60_in0) wsX10_in0) wsX20_in0) wsX00_in0) wsX40_in0) wsX30_in0) (fun _ h => absurd h List.not_mem_nil))
theorem wsL_law_x0 : ∀ w ∈ (vx_at0 RX5 293 "java/lang/IllegalArgumentException" ["java/lang/RuntimeException", "java/lang/Exception"]).filter goodWord, w ∈ lw_tbl := by decide +kernel
theorem wsL_law_x1 : ∀ w ∈ (vx_at0 RX5 299 "java/lang/IllegalStateException" ["java/lang/RuntimeException", "java/lang/Exception"]).filter goodWord, w ∈ lw_tbl := by decide +kernel
theorem wsL_law_in : ∀ w ∈ wsL_law, w ∈ lw_tbl := fun w h => (List.mem_append.mp h).elim (fun h => (List.mem_append.mp h).elim (fun h => wsL_law_in0 w h) (fun h => wsL_law_x0 w h)) (fun h => wsL_law_x1 w h)
theorem inlX0 : ∀ w ∈ wsX00, w ∈ wsL_law := fun _ h => List.mem_append_left _ (List.mem_append_left _ (List.mem_append_left _ (List.mem_append_left _ (List.mem_append_left _ (List.mem_append_right _ h)))))
theorem inX0 : ∀ w ∈ wsX00, w ∈ lw_tbl := fun w h => wsL_law_in w (inlX0 w h)
theorem inlX1 : ∀ w ∈ wsX10, w ∈ wsL_law := fun _ h => List.mem_append_left _ (List.mem_append_left _ (List.mem_append_left _ (List.mem_append_left _ (List.mem_append_left _ (List.mem_append_left _ (List.mem_append_left _ (List.mem_append_right _ h)))))))
theorem inX1 : ∀ w ∈ wsX10, w ∈ lw_tbl := fun w h => wsL_law_in w (inlX1 w h)
theorem inlX2 : ∀ w ∈ wsX20, w ∈ wsL_law := fun _ h => List.mem_append_left _ (List.mem_append_left _ (List.mem_append_left _ (List.mem_append_left _ (List.mem_append_left _ (List.mem_append_left _ (List.mem_append_right _ h))))))
theorem inX2 : ∀ w ∈ wsX20, w ∈ lw_tbl := fun w h => wsL_law_in w (inlX2 w h)
theorem inlX3 : ∀ w ∈ wsX30, w ∈ wsL_law := fun _ h => List.mem_append_left _ (List.mem_append_left _ (List.mem_append_left _ (List.mem_append_right _ h)))
theorem inX3 : ∀ w ∈ wsX30, w ∈ lw_tbl := fun w h => wsL_law_in w (inlX3 w h)
theorem inlX4 : ∀ w ∈ wsX40, w ∈ wsL_law := fun _ h => List.mem_append_left _ (List.mem_append_left _ (List.mem_append_left _ (List.mem_append_left _ (List.mem_append_right _ h))))
theorem inX4 : ∀ w ∈ wsX40, w ∈ lw_tbl := fun w h => wsL_law_in w (inlX4 w h)
theorem inlX5 : ∀ w ∈ wsX50, w ∈ wsL_law := fun _ h => List.mem_append_left _ (List.mem_append_left _ (List.mem_append_left _ (List.mem_append_left _ (List.mem_append_left _ (List.mem_append_left _ (List.mem_append_left _ (List.mem_append_left _ (List.mem_append_left _ (List.mem_append_right _ h)))))))))
theorem inX5 : ∀ w ∈ wsX50, w ∈ lw_tbl := fun w h => wsL_law_in w (inlX5 w h)
theorem inlX6 : ∀ w ∈ wsX60, w ∈ wsL_law := fun _ h => List.mem_append_left _ (List.mem_append_left _ (List.mem_append_left _ (List.mem_append_left _ (List.mem_append_left _ (List.mem_append_left _ (List.mem_append_left _ (List.mem_append_left _ (List.mem_append_right _ h))))))))
theorem inX6 : ∀ w ∈ wsX60, w ∈ lw_tbl := fun w h => wsL_law_in w (inlX6 w h)
theorem inJ9 : ∀ w ∈ wsJ90, w ∈ lw_tbl := by decide +kernel
theorem inJ10 : ∀ w ∈ wsJ100, w ∈ lw_tbl := by decide +kernel
set_option maxRecDepth 20000 in
theorem ggX0_takeIn_X5_keepsOf : GoodIn wsX0_takeIn wsX5_keepsOf := goodIn_r _ [7] (by decide +kernel) (by decide +kernel)
set_option maxRecDepth 20000 in
theorem gX0_takeIn_X5_keepsOf_n23 : GoodIn wsX0_takeIn (wsX5_keepsOf) := ggX0_takeIn_X5_keepsOf
set_option maxRecDepth 20000 in
theorem ggX0_takeIn_X5_ownOf : GoodIn wsX0_takeIn wsX5_ownOf := goodIn_r _ [9] (by decide +kernel) (by decide +kernel)
set_option maxRecDepth 20000 in
theorem gX0_takeIn_X5_ownOf_n29 : GoodIn wsX0_takeIn (wsX5_ownOf) := ggX0_takeIn_X5_ownOf
set_option maxRecDepth 20000 in
theorem ggX0_takeCode_X5_kindIn : GoodIn wsX0_takeCode wsX5_kindIn := goodIn_r _ [3] (by decide +kernel) (by decide +kernel)
set_option maxRecDepth 20000 in
theorem gX0_takeCode_X5_kindIn_n33 : GoodIn wsX0_takeCode (wsX5_kindIn) := ggX0_takeCode_X5_kindIn
set_option maxRecDepth 20000 in
theorem ggX0_takeCode_X0_takeIn : GoodIn wsX0_takeCode wsX0_takeIn := goodIn_r _ [8, 9, 10, 11, 12, 13, 2, 14, 15, 16, 17, 18, 19] (by decide +kernel) (by decide +kernel)
set_option maxRecDepth 20000 in
theorem gX0_takeCode_X0_takeIn : GoodIn wsX0_takeCode (wsV RX0 37 RX0 yX0_takeIn wsX0_takeIn) := goodIn_app (goodIn_of _ (by decide +kernel)) ggX0_takeCode_X0_takeIn
set_option maxRecDepth 20000 in
theorem ggX0_portionOf_X0_totalAbove : GoodIn wsX0_portionOf wsX0_totalAbove := goodIn_r _ [7, 2, 8, 9, 10] (by decide +kernel) (by decide +kernel)
set_option maxRecDepth 20000 in
theorem gX0_portionOf_X0_totalAbove : GoodIn wsX0_portionOf (wsV RX0 41 RX0 yX0_totalAbove wsX0_totalAbove) := goodIn_app (goodIn_of _ (by decide +kernel)) ggX0_portionOf_X0_totalAbove
set_option maxRecDepth 20000 in
theorem ggX0_isOver_X0_totalAbove : GoodIn wsX0_isOver wsX0_totalAbove := goodIn_r _ [7, 2, 8, 9, 10] (by decide +kernel) (by decide +kernel)
set_option maxRecDepth 20000 in
theorem gX0_isOver_X0_totalAbove : GoodIn wsX0_isOver (wsV RX0 41 RX0 yX0_totalAbove wsX0_totalAbove) := goodIn_app (goodIn_of _ (by decide +kernel)) ggX0_isOver_X0_totalAbove
set_option maxRecDepth 20000 in
theorem ggX0_isHarmful_X0_totalAbove : GoodIn wsX0_isHarmful wsX0_totalAbove := goodIn_r _ [7, 2, 8, 9, 10] (by decide +kernel) (by decide +kernel)
set_option maxRecDepth 20000 in
theorem gX0_isHarmful_X0_totalAbove : GoodIn wsX0_isHarmful (wsV RX0 41 RX0 yX0_totalAbove wsX0_totalAbove) := goodIn_app (goodIn_of _ (by decide +kernel)) ggX0_isHarmful_X0_totalAbove
set_option maxRecDepth 20000 in
theorem ggX1_init_X3_init : GoodIn wsX1_init wsX3_init := goodIn_r _ [9, 10, 2, 3, 11, 12, 13, 14, 15, 16, 17, 18, 19, 20, 21, 22, 23, 29, 30, 31, 26, 27, 28] (by decide +kernel) (by decide +kernel)
set_option maxRecDepth 20000 in
theorem gX1_init_X3_init_n17 : GoodIn wsX1_init (wsX3_init) := ggX1_init_X3_init
set_option maxRecDepth 20000 in
theorem ggX1_become_X3_become : GoodIn wsX1_become wsX3_become := goodIn_r _ [7, 8, 9, 10, 11, 12, 13, 14, 15, 16, 17, 18, 19, 20, 21, 22, 25, 26, 27, 28, 29, 30] (by decide +kernel) (by decide +kernel)
set_option maxRecDepth 20000 in
theorem gX1_become_X3_become : GoodIn wsX1_become (wsV RX1 22 RX3 yX3_become wsX3_become) := goodIn_app (goodIn_of _ (by decide +kernel)) ggX1_become_X3_become
set_option maxRecDepth 20000 in
theorem ggX1_addPot_X0_clear : GoodIn wsX1_addPot wsX0_clear := goodIn_r _ [8, 9, 10, 11, 17, 18, 19] (by decide +kernel) (by decide +kernel)
set_option maxRecDepth 20000 in
theorem gX1_addPot_X0_clear : GoodIn wsX1_addPot (wsV RX1 30 RX0 yX0_clear wsX0_clear) := goodIn_app (goodIn_of _ (by decide +kernel)) ggX1_addPot_X0_clear
set_option maxRecDepth 20000 in
theorem ggX1_brokenAt_X4_elementOr : GoodIn wsX1_brokenAt wsX4_elementOr := goodIn_r _ [6, 7, 8, 9, 10, 5, 11, 12, 25, 26, 27, 28, 29, 30] (by decide +kernel) (by decide +kernel)
set_option maxRecDepth 20000 in
theorem gX1_brokenAt_X4_elementOr : GoodIn wsX1_brokenAt (wsV RX1 35 RX4 yX4_elementOr wsX4_elementOr) := goodIn_app (goodIn_of _ (by decide +kernel)) ggX1_brokenAt_X4_elementOr
set_option maxRecDepth 20000 in
theorem ggX1_brokenAt_X1_digitsBehind : GoodIn wsX1_brokenAt wsX1_digitsBehind := goodIn_r _ [16] (by decide +kernel) (by decide +kernel)
set_option maxRecDepth 20000 in
theorem gX1_brokenAt_X1_digitsBehind : GoodIn wsX1_brokenAt (va_wsS RX1 41 yX1_digitsBehind wsX1_digitsBehind) := goodIn_app (goodIn_of _ (by decide +kernel)) ggX1_brokenAt_X1_digitsBehind
set_option maxRecDepth 20000 in
theorem ggX1_brokenAt_X4_digitAt : GoodIn wsX1_brokenAt wsX4_digitAt := goodIn_r _ [20, 21, 3, 4, 5, 6, 7, 8, 9, 10, 11, 12, 25, 26, 27, 28, 29, 30] (by decide +kernel) (by decide +kernel)
set_option maxRecDepth 20000 in
theorem gX1_brokenAt_X4_digitAt : GoodIn wsX1_brokenAt (wsV RX1 45 RX4 yX4_digitAt wsX4_digitAt) := goodIn_app (goodIn_of _ (by decide +kernel)) ggX1_brokenAt_X4_digitAt
set_option maxRecDepth 20000 in
theorem ggX1_brokenAt_X5_isNoFigure : GoodIn wsX1_brokenAt wsX5_isNoFigure := goodIn_r _ [24] (by decide +kernel) (by decide +kernel)
set_option maxRecDepth 20000 in
theorem gX1_brokenAt_X5_isNoFigure_n48 : GoodIn wsX1_brokenAt (wsX5_isNoFigure) := ggX1_brokenAt_X5_isNoFigure
set_option maxRecDepth 20000 in
theorem ggX1_carryOut_X4_digitAt : GoodIn wsX1_carryOut wsX4_digitAt := goodIn_r _ [5, 6, 7, 8, 4, 9, 10, 11, 12, 13, 14, 15, 88, 89, 90, 91, 92, 93] (by decide +kernel) (by decide +kernel)
set_option maxRecDepth 20000 in
theorem gX1_carryOut_X4_digitAt : GoodIn wsX1_carryOut (wsV RX1 45 RX4 yX4_digitAt wsX4_digitAt) := goodIn_app (goodIn_of _ (by decide +kernel)) ggX1_carryOut_X4_digitAt
set_option maxRecDepth 20000 in
theorem ggX1_carryOut_X4_elementOr : GoodIn wsX1_carryOut wsX4_elementOr := goodIn_r _ [9, 10, 11, 12, 13, 4, 14, 15, 88, 89, 90, 91, 92, 93] (by decide +kernel) (by decide +kernel)
set_option maxRecDepth 20000 in
theorem gX1_carryOut_X4_elementOr : GoodIn wsX1_carryOut (wsV RX1 35 RX4 yX4_elementOr wsX4_elementOr) := goodIn_app (goodIn_of _ (by decide +kernel)) ggX1_carryOut_X4_elementOr
set_option maxRecDepth 20000 in
theorem ggX1_carryOut_X1_addPot : GoodIn wsX1_carryOut wsX1_addPot := goodIn_r _ [21, 22, 23, 24, 25, 26, 27, 28, 29, 30, 31, 32, 94, 95, 96, 97, 98, 99, 100, 101] (by decide +kernel) (by decide +kernel)
set_option maxRecDepth 20000 in
theorem gX1_carryOut_X1_addPot : GoodIn wsX1_carryOut (wsV RX1 53 RX1 yX1_addPot wsX1_addPot) := goodIn_app (goodIn_of _ (by decide +kernel)) ggX1_carryOut_X1_addPot
set_option maxRecDepth 20000 in
theorem ggX1_carryOut_X1_cookIn : GoodIn wsX1_carryOut wsX1_cookIn := goodIn_r _ [36, 23, 37, 38, 39, 20, 40, 22, 41, 42, 43, 44, 45, 46, 47, 48, 49, 50, 51, 52, 53, 54, 55, 56, 57, 28, 58, 32, 59, 60, 61, 62, 31, 63, 30, 64, 65, 66, 67, 94, 95, 96, 97, 98, 99, 100, 101] (by decide +kernel) (by decide +kernel)
set_option maxRecDepth 20000 in
theorem gX1_carryOut_X1_cookIn : GoodIn wsX1_carryOut (wsV RX1 57 RX1 yX1_cookIn wsX1_cookIn) := goodIn_app (goodIn_of _ (by decide +kernel)) ggX1_carryOut_X1_cookIn
set_option maxRecDepth 20000 in
theorem ggX1_carryOut_X1_renew : GoodIn wsX1_carryOut wsX1_renew := goodIn_r _ [71, 23, 24, 37, 38, 39, 20, 40, 22, 25, 26, 27, 28, 29, 30, 31, 32, 94, 95, 96, 97, 98, 99, 100, 101] (by decide +kernel) (by decide +kernel)
set_option maxRecDepth 20000 in
theorem gX1_carryOut_X1_renew : GoodIn wsX1_carryOut (wsV RX1 61 RX1 yX1_renew wsX1_renew) := goodIn_app (goodIn_of _ (by decide +kernel)) ggX1_carryOut_X1_renew
set_option maxRecDepth 20000 in
theorem ggX1_carryOut_X1_makeAlike : GoodIn wsX1_carryOut wsX1_makeAlike := goodIn_r _ [75, 23, 37, 38, 39, 20, 40, 22, 76, 77, 78, 49, 79, 51, 52, 80, 81, 82, 83, 54, 84, 85, 86, 28, 87, 30, 31, 32, 94, 95, 96, 97, 98, 99, 100, 101] (by decide +kernel) (by decide +kernel)
set_option maxRecDepth 20000 in
theorem gX1_carryOut_X1_makeAlike : GoodIn wsX1_carryOut (wsV RX1 64 RX1 yX1_makeAlike wsX1_makeAlike) := goodIn_app (goodIn_of _ (by decide +kernel)) ggX1_carryOut_X1_makeAlike
set_option maxRecDepth 20000 in
theorem ggX1_cookIn_X1_has : GoodIn wsX1_cookIn wsX1_has := goodIn_r _ [6, 7, 39, 40] (by decide +kernel) (by decide +kernel)
set_option maxRecDepth 20000 in
theorem gX1_cookIn_X1_has : GoodIn wsX1_cookIn (wsV RX1 68 RX1 yX1_has wsX1_has) := goodIn_app (goodIn_of _ (by decide +kernel)) ggX1_cookIn_X1_has
set_option maxRecDepth 20000 in
theorem ggX1_cookIn_X5_isNoKind : GoodIn wsX1_cookIn wsX5_isNoKind := goodIn_r _ [10] (by decide +kernel) (by decide +kernel)
set_option maxRecDepth 20000 in
theorem gX1_cookIn_X5_isNoKind_n71 : GoodIn wsX1_cookIn (wsX5_isNoKind) := ggX1_cookIn_X5_isNoKind
set_option maxRecDepth 20000 in
theorem ggX1_cookIn_X5_isNoFigure : GoodIn wsX1_cookIn wsX5_isNoFigure := goodIn_r _ [12] (by decide +kernel) (by decide +kernel)
set_option maxRecDepth 20000 in
theorem gX1_cookIn_X5_isNoFigure_n48 : GoodIn wsX1_cookIn (wsX5_isNoFigure) := ggX1_cookIn_X5_isNoFigure
set_option maxRecDepth 20000 in
theorem ggX1_cookIn_X3_cookIn : GoodIn wsX1_cookIn wsX3_cookIn := goodIn_r _ [17, 18, 19, 20, 21, 22, 23, 24, 25, 26, 27, 28, 29, 30, 31, 32, 33, 34, 35, 9, 36, 37, 38, 41, 42, 43, 44, 45, 46] (by decide +kernel) (by decide +kernel)
set_option maxRecDepth 20000 in
theorem gX1_cookIn_X3_cookIn : GoodIn wsX1_cookIn (wsV RX1 74 RX3 yX3_cookIn wsX3_cookIn) := goodIn_app (goodIn_of _ (by decide +kernel)) ggX1_cookIn_X3_cookIn
set_option maxRecDepth 20000 in
theorem ggX1_renew_X1_has : GoodIn wsX1_renew wsX1_has := goodIn_r _ [7, 8, 17, 18] (by decide +kernel) (by decide +kernel)
set_option maxRecDepth 20000 in
theorem gX1_renew_X1_has : GoodIn wsX1_renew (wsV RX1 68 RX1 yX1_has wsX1_has) := goodIn_app (goodIn_of _ (by decide +kernel)) ggX1_renew_X1_has
set_option maxRecDepth 20000 in
theorem ggX1_renew_X0_clear : GoodIn wsX1_renew wsX0_clear := goodIn_r _ [13, 14, 15, 16, 22, 23, 24] (by decide +kernel) (by decide +kernel)
set_option maxRecDepth 20000 in
theorem gX1_renew_X0_clear : GoodIn wsX1_renew (wsV RX1 30 RX0 yX0_clear wsX0_clear) := goodIn_app (goodIn_of _ (by decide +kernel)) ggX1_renew_X0_clear
set_option maxRecDepth 20000 in
theorem ggX1_makeAlike_X1_has : GoodIn wsX1_makeAlike wsX1_has := goodIn_r _ [6, 7, 28, 29] (by decide +kernel) (by decide +kernel)
set_option maxRecDepth 20000 in
theorem gX1_makeAlike_X1_has : GoodIn wsX1_makeAlike (wsV RX1 68 RX1 yX1_has wsX1_has) := goodIn_app (goodIn_of _ (by decide +kernel)) ggX1_makeAlike_X1_has
set_option maxRecDepth 20000 in
theorem ggX1_makeAlike_X3_become : GoodIn wsX1_makeAlike wsX3_become := goodIn_r _ [12, 13, 14, 15, 16, 17, 18, 19, 20, 21, 22, 23, 24, 25, 26, 27, 30, 31, 32, 33, 34, 35] (by decide +kernel) (by decide +kernel)
set_option maxRecDepth 20000 in
theorem gX1_makeAlike_X3_become : GoodIn wsX1_makeAlike (wsV RX1 22 RX3 yX3_become wsX3_become) := goodIn_app (goodIn_of _ (by decide +kernel)) ggX1_makeAlike_X3_become
set_option maxRecDepth 20000 in
theorem ggX2_init_X0_init : GoodIn wsX2_init wsX0_init := goodIn_r _ [10, 11, 2, 3, 12, 13, 14, 22, 23, 24] (by decide +kernel) (by decide +kernel)
set_option maxRecDepth 20000 in
theorem gX2_init_X0_init_n20 : GoodIn wsX2_init (wsX0_init) := ggX2_init_X0_init
set_option maxRecDepth 20000 in
theorem ggX2_thinkOf_X0_become : GoodIn wsX2_thinkOf wsX0_become := goodIn_r _ [12, 13, 14, 15, 28, 29, 30] (by decide +kernel) (by decide +kernel)
set_option maxRecDepth 20000 in
theorem gX2_thinkOf_X0_become : GoodIn wsX2_thinkOf (wsV RX2 43 RX0 yX0_become wsX0_become) := goodIn_app (goodIn_of _ (by decide +kernel)) ggX2_thinkOf_X0_become
set_option maxRecDepth 20000 in
theorem ggX2_firstHarm_X2_staysGood : GoodIn wsX2_firstHarm wsX2_staysGood := goodIn_r _ [9, 10, 11, 12, 13, 14, 15, 16, 17, 18, 19, 20, 21, 22, 23, 24, 25, 26, 27, 28, 29, 30, 31, 32, 33, 34, 35, 36, 37, 38, 39, 40, 41, 42, 43, 44, 45, 46, 47, 48, 49, 56, 57, 58, 59, 60, 61, 62, 63, 64, 65, 50, 51, 52, 53, 54, 55] (by decide +kernel) (by decide +kernel)
set_option maxRecDepth 20000 in
theorem gX2_firstHarm_X2_staysGood : GoodIn wsX2_firstHarm (wsV RX2 54 RX2 yX2_staysGood wsX2_staysGood) := goodIn_app (goodIn_of _ (by decide +kernel)) ggX2_firstHarm_X2_staysGood
set_option maxRecDepth 20000 in
theorem ggX2_countWays_X2_spread : GoodIn wsX2_countWays wsX2_spread := goodIn_r _ [6, 7, 1, 2, 8, 9, 10, 11, 12, 13, 14, 15, 16, 17, 18, 19, 20, 21, 5, 22, 23, 24, 25, 26, 27, 28, 29, 30, 31, 32, 33, 34, 35, 36, 37, 38, 39, 40, 41, 42, 43, 44, 45, 46, 47, 48, 49, 50, 51, 52, 53, 54, 55, 56, 57, 58, 3, 4, 66, 67, 68, 69, 70, 71, 59, 60, 61, 62, 63, 64, 65, 72, 73, 74] (by decide +kernel) (by decide +kernel)
set_option maxRecDepth 20000 in
theorem gX2_countWays_X2_spread : GoodIn wsX2_countWays (va_wsS RX2 64 yX2_spread wsX2_spread) := goodIn_app (goodIn_of _ (by decide +kernel)) ggX2_countWays_X2_spread
set_option maxRecDepth 20000 in
theorem ggX2_spread_X0_become : GoodIn wsX2_spread wsX0_become := goodIn_r _ [11, 12, 13, 14, 71, 72, 73] (by decide +kernel) (by decide +kernel)
set_option maxRecDepth 20000 in
theorem gX2_spread_X0_become : GoodIn wsX2_spread (wsV RX2 43 RX0 yX0_become wsX0_become) := goodIn_app (goodIn_of _ (by decide +kernel)) ggX2_spread_X0_become
set_option maxRecDepth 20000 in
theorem ggX2_spread_X2_staysGood : GoodIn wsX2_spread wsX2_staysGood := goodIn_r _ [19, 20, 21, 22, 23, 24, 10, 25, 14, 26, 27, 28, 29, 30, 31, 32, 33, 34, 35, 36, 37, 38, 39, 40, 13, 41, 12, 42, 43, 44, 45, 46, 47, 48, 49, 50, 51, 52, 53, 54, 55, 64, 65, 66, 67, 68, 69, 70, 71, 72, 73, 58, 59, 60, 61, 62, 63] (by decide +kernel) (by decide +kernel)
set_option maxRecDepth 20000 in
theorem gX2_spread_X2_staysGood : GoodIn wsX2_spread (wsV RX2 54 RX2 yX2_staysGood wsX2_staysGood) := goodIn_app (goodIn_of _ (by decide +kernel)) ggX2_spread_X2_staysGood
set_option maxRecDepth 20000 in
theorem ggX2_spread_X2_spread : GoodIn wsX2_spread wsX2_spread := goodIn_r _ [0, 1, 2, 3, 4, 5, 6, 7, 8, 9, 10, 11, 12, 13, 14, 15, 16, 17, 18, 19, 20, 21, 22, 23, 24, 25, 26, 27, 28, 29, 30, 31, 32, 33, 34, 35, 36, 37, 38, 39, 40, 41, 42, 43, 44, 45, 46, 47, 48, 49, 50, 51, 52, 53, 54, 55, 56, 57, 58, 59, 60, 61, 62, 63, 64, 65, 66, 67, 68, 69, 70, 71, 72, 73] (by decide +kernel) (by decide +kernel)
set_option maxRecDepth 20000 in
theorem gX2_spread_X2_spread : GoodIn wsX2_spread (va_wsS RX2 64 yX2_spread wsX2_spread) := goodIn_app (goodIn_of _ (by decide +kernel)) ggX2_spread_X2_spread
set_option maxRecDepth 20000 in
theorem ggX2_staysGood_X0_hasRoom : GoodIn wsX2_staysGood wsX0_hasRoom := goodIn_r _ [7, 8, 48, 49, 50] (by decide +kernel) (by decide +kernel)
set_option maxRecDepth 20000 in
theorem gX2_staysGood_X0_hasRoom : GoodIn wsX2_staysGood (wsV RX2 68 RX0 yX0_hasRoom wsX0_hasRoom) := goodIn_app (goodIn_of _ (by decide +kernel)) ggX2_staysGood_X0_hasRoom
set_option maxRecDepth 20000 in
theorem ggX2_staysGood_X4_elementOr : GoodIn wsX2_staysGood wsX4_elementOr := goodIn_r _ [13, 14, 15, 16, 17, 12, 18, 19, 51, 52, 53, 54, 55, 56] (by decide +kernel) (by decide +kernel)
set_option maxRecDepth 20000 in
theorem gX2_staysGood_X4_elementOr : GoodIn wsX2_staysGood (wsV RX2 72 RX4 yX4_elementOr wsX4_elementOr) := goodIn_app (goodIn_of _ (by decide +kernel)) ggX2_staysGood_X4_elementOr
set_option maxRecDepth 20000 in
theorem ggX2_staysGood_X0_takeIn : GoodIn wsX2_staysGood wsX0_takeIn := goodIn_r _ [23, 24, 25, 26, 8, 27, 28, 29, 30, 31, 48, 49, 50] (by decide +kernel) (by decide +kernel)
set_option maxRecDepth 20000 in
theorem gX2_staysGood_X0_takeIn : GoodIn wsX2_staysGood (wsV RX2 76 RX0 yX0_takeIn wsX0_takeIn) := goodIn_app (goodIn_of _ (by decide +kernel)) ggX2_staysGood_X0_takeIn
set_option maxRecDepth 20000 in
theorem ggX2_staysGood_X0_isHarmful : GoodIn wsX2_staysGood wsX0_isHarmful := goodIn_r _ [35, 36, 26, 37, 38, 39, 6, 40, 48, 49, 50] (by decide +kernel) (by decide +kernel)
set_option maxRecDepth 20000 in
theorem gX2_staysGood_X0_isHarmful : GoodIn wsX2_staysGood (wsV RX2 80 RX0 yX0_isHarmful wsX0_isHarmful) := goodIn_app (goodIn_of _ (by decide +kernel)) ggX2_staysGood_X0_isHarmful
set_option maxRecDepth 20000 in
theorem ggX3_init_X0_init : GoodIn wsX3_init wsX0_init := goodIn_r _ [12, 13, 2, 3, 14, 15, 16, 17, 18, 19] (by decide +kernel) (by decide +kernel)
set_option maxRecDepth 20000 in
theorem gX3_init_X0_init_n11 : GoodIn wsX3_init (wsX0_init) := ggX3_init_X0_init
set_option maxRecDepth 20000 in
theorem ggX3_become_X0_become : GoodIn wsX3_become wsX0_become := goodIn_r _ [12, 13, 14, 15, 19, 20, 21] (by decide +kernel) (by decide +kernel)
set_option maxRecDepth 20000 in
theorem gX3_become_X0_become : GoodIn wsX3_become (wsV RX3 25 RX0 yX0_become wsX0_become) := goodIn_app (goodIn_of _ (by decide +kernel)) ggX3_become_X0_become
set_option maxRecDepth 20000 in
theorem ggX3_cookIn_X0_hasRoom : GoodIn wsX3_cookIn wsX0_hasRoom := goodIn_r _ [9, 10, 26, 27, 28] (by decide +kernel) (by decide +kernel)
set_option maxRecDepth 20000 in
theorem gX3_cookIn_X0_hasRoom : GoodIn wsX3_cookIn (wsV RX3 35 RX0 yX0_hasRoom wsX0_hasRoom) := goodIn_app (goodIn_of _ (by decide +kernel)) ggX3_cookIn_X0_hasRoom
set_option maxRecDepth 20000 in
theorem ggX3_cookIn_X0_takeIn : GoodIn wsX3_cookIn wsX0_takeIn := goodIn_r _ [14, 15, 16, 17, 10, 18, 19, 20, 21, 22, 26, 27, 28] (by decide +kernel) (by decide +kernel)
set_option maxRecDepth 20000 in
theorem gX3_cookIn_X0_takeIn : GoodIn wsX3_cookIn (wsV RX3 43 RX0 yX0_takeIn wsX0_takeIn) := goodIn_app (goodIn_of _ (by decide +kernel)) ggX3_cookIn_X0_takeIn
set_option maxRecDepth 20000 in
theorem ggX3_leftAbove_X3_kindOf : GoodIn wsX3_leftAbove wsX3_kindOf := goodIn_r _ [5, 6, 7, 8, 12, 13, 14, 15, 16, 17] (by decide +kernel) (by decide +kernel)
set_option maxRecDepth 20000 in
theorem gX3_leftAbove_X3_kindOf : GoodIn wsX3_leftAbove (wsV RX3 47 RX3 yX3_kindOf wsX3_kindOf) := goodIn_app (goodIn_of _ (by decide +kernel)) ggX3_leftAbove_X3_kindOf
set_option maxRecDepth 20000 in
theorem ggX3_leftAbove_X5_keepsOf : GoodIn wsX3_leftAbove wsX5_keepsOf := goodIn_r _ [11] (by decide +kernel) (by decide +kernel)
set_option maxRecDepth 20000 in
theorem gX3_leftAbove_X5_keepsOf_n51 : GoodIn wsX3_leftAbove (wsX5_keepsOf) := ggX3_leftAbove_X5_keepsOf
set_option maxRecDepth 20000 in
theorem ggX4_elementOr_X4_hasElement : GoodIn wsX4_elementOr wsX4_hasElement := goodIn_r _ [6, 7, 8, 9, 10, 11, 12, 13] (by decide +kernel) (by decide +kernel)
set_option maxRecDepth 20000 in
theorem gX4_elementOr_X4_hasElement : GoodIn wsX4_elementOr (wsV RX4 31 RX4 yX4_hasElement wsX4_hasElement) := goodIn_app (goodIn_of _ (by decide +kernel)) ggX4_elementOr_X4_hasElement
set_option maxRecDepth 20000 in
theorem ggX4_digitAt_X4_elementOr : GoodIn wsX4_digitAt wsX4_elementOr := goodIn_r _ [5, 6, 7, 8, 9, 4, 10, 11, 12, 13, 14, 15, 16, 17] (by decide +kernel) (by decide +kernel)
set_option maxRecDepth 20000 in
theorem gX4_digitAt_X4_elementOr : GoodIn wsX4_digitAt (wsV RX4 35 RX4 yX4_elementOr wsX4_elementOr) := goodIn_app (goodIn_of _ (by decide +kernel)) ggX4_digitAt_X4_elementOr
set_option maxRecDepth 20000 in
theorem ggX4_hasDishAt_X4_elementOr : GoodIn wsX4_hasDishAt wsX4_elementOr := goodIn_r _ [5, 6, 7, 8, 9, 4, 10, 11, 17, 18, 19, 20, 21, 22] (by decide +kernel) (by decide +kernel)
set_option maxRecDepth 20000 in
theorem gX4_hasDishAt_X4_elementOr : GoodIn wsX4_hasDishAt (wsV RX4 35 RX4 yX4_elementOr wsX4_elementOr) := goodIn_app (goodIn_of _ (by decide +kernel)) ggX4_hasDishAt_X4_elementOr
set_option maxRecDepth 20000 in
theorem ggX4_hasDishAt_X5_isNoKind : GoodIn wsX4_hasDishAt wsX5_isNoKind := goodIn_r _ [14] (by decide +kernel) (by decide +kernel)
set_option maxRecDepth 20000 in
theorem gX4_hasDishAt_X5_isNoKind_n39 : GoodIn wsX4_hasDishAt (wsX5_isNoKind) := ggX4_hasDishAt_X5_isNoKind
set_option maxRecDepth 20000 in
theorem ggX4_hasDishAt_X5_isNoFigure : GoodIn wsX4_hasDishAt wsX5_isNoFigure := goodIn_r _ [16] (by decide +kernel) (by decide +kernel)
set_option maxRecDepth 20000 in
theorem gX4_hasDishAt_X5_isNoFigure_n42 : GoodIn wsX4_hasDishAt (wsX5_isNoFigure) := ggX4_hasDishAt_X5_isNoFigure
set_option maxRecDepth 20000 in
theorem ggX5_init_X1_init : GoodIn wsX5_init wsX1_init := goodIn_r _ [26, 27, 2, 3, 28, 29, 30, 31, 32, 33, 34, 35, 15, 16, 36, 18, 37, 38, 39, 40, 41, 42, 43, 44, 56, 57, 82, 83, 84, 73, 74, 75] (by decide +kernel) (by decide +kernel)
set_option maxRecDepth 20000 in
theorem gX5_init_X1_init : GoodIn wsX5_init (wsX1_init) := ggX5_init_X1_init
set_option maxRecDepth 20000 in
theorem ggX5_init_X2_init : GoodIn wsX5_init wsX2_init := goodIn_r _ [47, 48, 2, 3, 49, 50, 51, 15, 16, 39, 40, 41, 42, 43, 44, 66, 67, 68, 69, 70, 71, 72, 73, 74, 75] (by decide +kernel) (by decide +kernel)
set_option maxRecDepth 20000 in
theorem gX5_init_X2_init : GoodIn wsX5_init (wsX2_init) := ggX5_init_X2_init
set_option maxRecDepth 20000 in
theorem ggX5_init_X0_init : GoodIn wsX5_init wsX0_init := goodIn_r _ [40, 41, 2, 3, 42, 43, 44, 73, 74, 75] (by decide +kernel) (by decide +kernel)
set_option maxRecDepth 20000 in
theorem gX5_init_X0_init_n31 : GoodIn wsX5_init (wsX0_init) := ggX5_init_X0_init
set_option maxRecDepth 20000 in
theorem ggX5_init_X4_init : GoodIn wsX5_init wsX4_init := goodIn_r _ [53, 54, 2, 3, 18, 55, 76, 77, 78, 79, 80, 81] (by decide +kernel) (by decide +kernel)
set_option maxRecDepth 20000 in
theorem gX5_init_X4_init_n46 : GoodIn wsX5_init (wsX4_init) := ggX5_init_X4_init
set_option maxRecDepth 20000 in
theorem ggX5_kitchen_X5_bytesRefusal : GoodIn wsX5_kitchen wsX5_bytesRefusal := goodIn_r _ [9, 1, 10, 11, 12, 13, 8, 14, 15, 16, 17, 18, 19, 20, 21, 22, 23, 24, 25, 26, 27, 130, 131, 132, 133, 134, 135, 136, 137, 138, 139, 140, 141, 142, 143] (by decide +kernel) (by decide +kernel)
set_option maxRecDepth 20000 in
theorem gX5_kitchen_X5_bytesRefusal : GoodIn wsX5_kitchen (wsV RX5 47 RX5 yX5_bytesRefusal wsX5_bytesRefusal) := goodIn_app (goodIn_of _ (by decide +kernel)) ggX5_kitchen_X5_bytesRefusal
set_option maxRecDepth 20000 in
theorem ggX5_kitchen_X1_brokenAt : GoodIn wsX5_kitchen wsX1_brokenAt := goodIn_r _ [31, 32, 33, 34, 35, 21, 36, 37, 38, 39, 40, 41, 42, 43, 44, 30, 45, 46, 47, 48, 49, 50, 51, 8, 52, 138, 139, 140, 141, 142, 143] (by decide +kernel) (by decide +kernel)
set_option maxRecDepth 20000 in
theorem gX5_kitchen_X1_brokenAt : GoodIn wsX5_kitchen (va_wsS RX5 51 yX1_brokenAt wsX1_brokenAt) := goodIn_app (goodIn_of _ (by decide +kernel)) ggX5_kitchen_X1_brokenAt
set_option maxRecDepth 20000 in
theorem ggX5_kitchen_X1_become : GoodIn wsX5_kitchen wsX1_become := goodIn_r _ [56, 57, 58, 59, 60, 61, 62, 63, 64, 65, 66, 67, 68, 69, 70, 71, 72, 73, 74, 75, 76, 77, 78, 144, 145, 146, 147, 148, 149, 150, 151] (by decide +kernel) (by decide +kernel)
set_option maxRecDepth 20000 in
theorem gX5_kitchen_X1_become : GoodIn wsX5_kitchen (wsV RX5 55 RX1 yX1_become wsX1_become) := goodIn_app (goodIn_of _ (by decide +kernel)) ggX5_kitchen_X1_become
set_option maxRecDepth 20000 in
theorem ggX5_kitchen_X1_carryOut : GoodIn wsX5_kitchen wsX1_carryOut := goodIn_r _ [82, 46, 47, 48, 21, 49, 50, 34, 35, 36, 37, 38, 39, 40, 41, 42, 33, 83, 84, 85, 30, 86, 57, 58, 87, 88, 89, 90, 74, 91, 76, 77, 78, 92, 93, 94, 95, 96, 97, 98, 99, 100, 8, 101, 51, 52, 102, 103, 104, 62, 105, 64, 65, 106, 70, 107, 108, 109, 110, 111, 112, 113, 114, 115, 116, 117, 118, 119, 120, 121, 122, 123, 124, 125, 126, 127, 59, 60, 61, 63, 66, 67, 68, 69, 71, 72, 73, 75, 138, 139, 140, 141, 142, 143, 144, 145, 146, 147, 148, 149, 150, 151] (by decide +kernel) (by decide +kernel)
set_option maxRecDepth 20000 in
theorem gX5_kitchen_X1_carryOut : GoodIn wsX5_kitchen (wsV RX5 63 RX1 yX1_carryOut wsX1_carryOut) := goodIn_app (goodIn_of _ (by decide +kernel)) ggX5_kitchen_X1_carryOut
set_option maxRecDepth 20000 in
theorem ggX5_kitchen_X4_elementOr : GoodIn wsX5_kitchen wsX4_elementOr := goodIn_r _ [36, 37, 38, 39, 40, 21, 41, 42, 138, 139, 140, 141, 142, 143] (by decide +kernel) (by decide +kernel)
set_option maxRecDepth 20000 in
theorem gX5_kitchen_X4_elementOr : GoodIn wsX5_kitchen (wsV RX5 67 RX4 yX4_elementOr wsX4_elementOr) := goodIn_app (goodIn_of _ (by decide +kernel)) ggX5_kitchen_X4_elementOr
set_option maxRecDepth 20000 in
theorem ggX5_kitchen_X1_digitsBehind : GoodIn wsX5_kitchen wsX1_digitsBehind := goodIn_r _ [45] (by decide +kernel) (by decide +kernel)
set_option maxRecDepth 20000 in
theorem gX5_kitchen_X1_digitsBehind : GoodIn wsX5_kitchen (va_wsS RX5 71 yX1_digitsBehind wsX1_digitsBehind) := goodIn_app (goodIn_of _ (by decide +kernel)) ggX5_kitchen_X1_digitsBehind
set_option maxRecDepth 20000 in
theorem ggX5_pot_X1_addPot : GoodIn wsX5_pot wsX1_addPot := goodIn_r _ [7, 8, 9, 10, 11, 12, 13, 14, 15, 16, 17, 18, 27, 28, 29, 30, 31, 32, 33, 34] (by decide +kernel) (by decide +kernel)
set_option maxRecDepth 20000 in
theorem gX5_pot_X1_addPot : GoodIn wsX5_pot (wsV RX5 74 RX1 yX1_addPot wsX1_addPot) := goodIn_app (goodIn_of _ (by decide +kernel)) ggX5_pot_X1_addPot
set_option maxRecDepth 20000 in
theorem ggX5_cook_X1_has : GoodIn wsX5_cook wsX1_has := goodIn_r _ [12, 13, 66, 67] (by decide +kernel) (by decide +kernel)
set_option maxRecDepth 20000 in
theorem gX5_cook_X1_has : GoodIn wsX5_cook (wsV RX5 79 RX1 yX1_has wsX1_has) := goodIn_app (goodIn_of _ (by decide +kernel)) ggX5_cook_X1_has
set_option maxRecDepth 20000 in
theorem ggX5_cook_X5_dishRefusal : GoodIn wsX5_cook wsX5_dishRefusal := goodIn_r _ [18, 3, 19, 20, 17, 21, 22, 23, 24, 25, 26, 27, 28, 29, 30, 31, 58, 59, 60, 61, 62, 63, 64, 65, 68, 69, 70, 71, 72, 73] (by decide +kernel) (by decide +kernel)
set_option maxRecDepth 20000 in
theorem gX5_cook_X5_dishRefusal : GoodIn wsX5_cook (wsV RX5 83 RX5 yX5_dishRefusal wsX5_dishRefusal) := goodIn_app (goodIn_of _ (by decide +kernel)) ggX5_cook_X5_dishRefusal
set_option maxRecDepth 20000 in
theorem ggX5_cook_X3_cookIn : GoodIn wsX5_cook wsX3_cookIn := goodIn_r _ [36, 37, 38, 39, 40, 41, 42, 43, 44, 45, 46, 47, 48, 49, 50, 51, 52, 53, 54, 17, 55, 56, 57, 74, 75, 76, 77, 78, 79] (by decide +kernel) (by decide +kernel)
set_option maxRecDepth 20000 in
theorem gX5_cook_X3_cookIn : GoodIn wsX5_cook (wsV RX5 96 RX3 yX3_cookIn wsX3_cookIn) := goodIn_app (goodIn_of _ (by decide +kernel)) ggX5_cook_X3_cookIn
set_option maxRecDepth 20000 in
theorem ggX5_dish_X1_has : GoodIn wsX5_dish wsX1_has := goodIn_r _ [7, 8, 38, 39] (by decide +kernel) (by decide +kernel)
set_option maxRecDepth 20000 in
theorem gX5_dish_X1_has : GoodIn wsX5_dish (wsV RX5 79 RX1 yX1_has wsX1_has) := goodIn_app (goodIn_of _ (by decide +kernel)) ggX5_dish_X1_has
set_option maxRecDepth 20000 in
theorem ggX5_dish_X5_isNoHalf : GoodIn wsX5_dish wsX5_isNoHalf := goodIn_r _ [12] (by decide +kernel) (by decide +kernel)
set_option maxRecDepth 20000 in
theorem gX5_dish_X5_isNoHalf : GoodIn wsX5_dish (va_wsS RX5 108 yX5_isNoHalf wsX5_isNoHalf) := goodIn_app (goodIn_of _ (by decide +kernel)) ggX5_dish_X5_isNoHalf
set_option maxRecDepth 20000 in
theorem ggX5_dish_X3_hasDish : GoodIn wsX5_dish wsX3_hasDish := goodIn_r _ [17, 18, 19, 40, 41, 42, 43, 44, 45] (by decide +kernel) (by decide +kernel)
set_option maxRecDepth 20000 in
theorem gX5_dish_X3_hasDish : GoodIn wsX5_dish (wsV RX5 111 RX3 yX3_hasDish wsX3_hasDish) := goodIn_app (goodIn_of _ (by decide +kernel)) ggX5_dish_X3_hasDish
set_option maxRecDepth 20000 in
theorem ggX5_dish_X3_kindOf : GoodIn wsX5_dish wsX3_kindOf := goodIn_r _ [23, 24, 18, 19, 40, 41, 42, 43, 44, 45] (by decide +kernel) (by decide +kernel)
set_option maxRecDepth 20000 in
theorem gX5_dish_X3_kindOf : GoodIn wsX5_dish (wsV RX5 114 RX3 yX3_kindOf wsX3_kindOf) := goodIn_app (goodIn_of _ (by decide +kernel)) ggX5_dish_X3_kindOf
set_option maxRecDepth 20000 in
theorem ggX5_dish_X3_figureOf : GoodIn wsX5_dish wsX3_figureOf := goodIn_r _ [28, 29, 18, 19, 40, 41, 42, 43, 44, 45] (by decide +kernel) (by decide +kernel)
set_option maxRecDepth 20000 in
theorem gX5_dish_X3_figureOf : GoodIn wsX5_dish (wsV RX5 117 RX3 yX3_figureOf wsX3_figureOf) := goodIn_app (goodIn_of _ (by decide +kernel)) ggX5_dish_X3_figureOf
set_option maxRecDepth 20000 in
theorem ggX5_dishes_X1_has : GoodIn wsX5_dishes wsX1_has := goodIn_r _ [9, 10, 19, 20] (by decide +kernel) (by decide +kernel)
set_option maxRecDepth 20000 in
theorem gX5_dishes_X1_has : GoodIn wsX5_dishes (wsV RX5 79 RX1 yX1_has wsX1_has) := goodIn_app (goodIn_of _ (by decide +kernel)) ggX5_dishes_X1_has
set_option maxRecDepth 20000 in
theorem ggX5_taste_X1_has : GoodIn wsX5_taste wsX1_has := goodIn_r _ [11, 12, 32, 33] (by decide +kernel) (by decide +kernel)
set_option maxRecDepth 20000 in
theorem gX5_taste_X1_has : GoodIn wsX5_taste (wsV RX5 79 RX1 yX1_has wsX1_has) := goodIn_app (goodIn_of _ (by decide +kernel)) ggX5_taste_X1_has
set_option maxRecDepth 20000 in
theorem ggX5_taste_X5_isNoTaste : GoodIn wsX5_taste wsX5_isNoTaste := goodIn_r _ [16] (by decide +kernel) (by decide +kernel)
set_option maxRecDepth 20000 in
theorem gX5_taste_X5_isNoTaste : GoodIn wsX5_taste (va_wsS RX5 120 yX5_isNoTaste wsX5_isNoTaste) := goodIn_app (goodIn_of _ (by decide +kernel)) ggX5_taste_X5_isNoTaste
set_option maxRecDepth 20000 in
theorem ggX5_taste_X5_isNoHalf : GoodIn wsX5_taste wsX5_isNoHalf := goodIn_r _ [19] (by decide +kernel) (by decide +kernel)
set_option maxRecDepth 20000 in
theorem gX5_taste_X5_isNoHalf : GoodIn wsX5_taste (va_wsS RX5 108 yX5_isNoHalf wsX5_isNoHalf) := goodIn_app (goodIn_of _ (by decide +kernel)) ggX5_taste_X5_isNoHalf
set_option maxRecDepth 20000 in
theorem ggX5_taste_X5_inLeastTerms : GoodIn wsX5_taste wsX5_inLeastTerms := goodIn_r _ [22, 23] (by decide +kernel) (by decide +kernel)
set_option maxRecDepth 20000 in
theorem gX5_taste_X5_inLeastTerms : GoodIn wsX5_taste (va_wsS RX5 133 yX5_inLeastTerms wsX5_inLeastTerms) := goodIn_app (goodIn_of _ (by decide +kernel)) ggX5_taste_X5_inLeastTerms
set_option maxRecDepth 20000 in
theorem ggX5_all_X1_has : GoodIn wsX5_all wsX1_has := goodIn_r _ [10, 11, 34, 35] (by decide +kernel) (by decide +kernel)
set_option maxRecDepth 20000 in
theorem gX5_all_X1_has : GoodIn wsX5_all (wsV RX5 79 RX1 yX1_has wsX1_has) := goodIn_app (goodIn_of _ (by decide +kernel)) ggX5_all_X1_has
set_option maxRecDepth 20000 in
theorem ggX5_all_X5_isNoHalf : GoodIn wsX5_all wsX5_isNoHalf := goodIn_r _ [15] (by decide +kernel) (by decide +kernel)
set_option maxRecDepth 20000 in
theorem gX5_all_X5_isNoHalf : GoodIn wsX5_all (va_wsS RX5 108 yX5_isNoHalf wsX5_isNoHalf) := goodIn_app (goodIn_of _ (by decide +kernel)) ggX5_all_X5_isNoHalf
set_option maxRecDepth 20000 in
theorem ggX5_all_X0_totalAbove : GoodIn wsX5_all wsX0_totalAbove := goodIn_r _ [20, 21, 39, 40, 41] (by decide +kernel) (by decide +kernel)
set_option maxRecDepth 20000 in
theorem gX5_all_X0_totalAbove : GoodIn wsX5_all (wsV RX5 137 RX0 yX0_totalAbove wsX0_totalAbove) := goodIn_app (goodIn_of _ (by decide +kernel)) ggX5_all_X0_totalAbove
set_option maxRecDepth 20000 in
theorem ggX5_all_X5_inLeastTerms : GoodIn wsX5_all wsX5_inLeastTerms := goodIn_r _ [24, 25] (by decide +kernel) (by decide +kernel)
set_option maxRecDepth 20000 in
theorem gX5_all_X5_inLeastTerms : GoodIn wsX5_all (va_wsS RX5 133 yX5_inLeastTerms wsX5_inLeastTerms) := goodIn_app (goodIn_of _ (by decide +kernel)) ggX5_all_X5_inLeastTerms
set_option maxRecDepth 20000 in
theorem ggX5_portion_X1_has : GoodIn wsX5_portion wsX1_has := goodIn_r _ [8, 9, 33, 34] (by decide +kernel) (by decide +kernel)
set_option maxRecDepth 20000 in
theorem gX5_portion_X1_has : GoodIn wsX5_portion (wsV RX5 79 RX1 yX1_has wsX1_has) := goodIn_app (goodIn_of _ (by decide +kernel)) ggX5_portion_X1_has
set_option maxRecDepth 20000 in
theorem ggX5_portion_X5_isNoTaste : GoodIn wsX5_portion wsX5_isNoTaste := goodIn_r _ [13] (by decide +kernel) (by decide +kernel)
set_option maxRecDepth 20000 in
theorem gX5_portion_X5_isNoTaste : GoodIn wsX5_portion (va_wsS RX5 120 yX5_isNoTaste wsX5_isNoTaste) := goodIn_app (goodIn_of _ (by decide +kernel)) ggX5_portion_X5_isNoTaste
set_option maxRecDepth 20000 in
theorem ggX5_portion_X0_portionOf : GoodIn wsX5_portion wsX0_portionOf := goodIn_r _ [18, 19, 20, 21, 22, 23, 17, 24, 38, 39, 40] (by decide +kernel) (by decide +kernel)
set_option maxRecDepth 20000 in
theorem gX5_portion_X0_portionOf : GoodIn wsX5_portion (wsV RX5 141 RX0 yX0_portionOf wsX0_portionOf) := goodIn_app (goodIn_of _ (by decide +kernel)) ggX5_portion_X0_portionOf
set_option maxRecDepth 20000 in
theorem ggX5_over_X1_has : GoodIn wsX5_over wsX1_has := goodIn_r _ [8, 9, 36, 37] (by decide +kernel) (by decide +kernel)
set_option maxRecDepth 20000 in
theorem gX5_over_X1_has : GoodIn wsX5_over (wsV RX5 79 RX1 yX1_has wsX1_has) := goodIn_app (goodIn_of _ (by decide +kernel)) ggX5_over_X1_has
set_option maxRecDepth 20000 in
theorem ggX5_over_X5_isNoTaste : GoodIn wsX5_over wsX5_isNoTaste := goodIn_r _ [13] (by decide +kernel) (by decide +kernel)
set_option maxRecDepth 20000 in
theorem gX5_over_X5_isNoTaste : GoodIn wsX5_over (va_wsS RX5 120 yX5_isNoTaste wsX5_isNoTaste) := goodIn_app (goodIn_of _ (by decide +kernel)) ggX5_over_X5_isNoTaste
set_option maxRecDepth 20000 in
theorem ggX5_over_X5_isNoPercent : GoodIn wsX5_over wsX5_isNoPercent := goodIn_r _ [16] (by decide +kernel) (by decide +kernel)
set_option maxRecDepth 20000 in
theorem gX5_over_X5_isNoPercent : GoodIn wsX5_over (va_wsS RX5 144 yX5_isNoPercent wsX5_isNoPercent) := goodIn_app (goodIn_of _ (by decide +kernel)) ggX5_over_X5_isNoPercent
set_option maxRecDepth 20000 in
theorem ggX5_over_X0_isOver : GoodIn wsX5_over wsX0_isOver := goodIn_r _ [21, 22, 23, 24, 25, 26, 20, 27, 41, 42, 43] (by decide +kernel) (by decide +kernel)
set_option maxRecDepth 20000 in
theorem gX5_over_X0_isOver : GoodIn wsX5_over (wsV RX5 147 RX0 yX0_isOver wsX0_isOver) := goodIn_app (goodIn_of _ (by decide +kernel)) ggX5_over_X0_isOver
set_option maxRecDepth 20000 in
theorem ggX5_part_X1_has : GoodIn wsX5_part wsX1_has := goodIn_r _ [8, 9, 48, 49] (by decide +kernel) (by decide +kernel)
set_option maxRecDepth 20000 in
theorem gX5_part_X1_has : GoodIn wsX5_part (wsV RX5 79 RX1 yX1_has wsX1_has) := goodIn_app (goodIn_of _ (by decide +kernel)) ggX5_part_X1_has
set_option maxRecDepth 20000 in
theorem ggX5_part_X5_isNoHalf : GoodIn wsX5_part wsX5_isNoHalf := goodIn_r _ [13] (by decide +kernel) (by decide +kernel)
set_option maxRecDepth 20000 in
theorem gX5_part_X5_isNoHalf : GoodIn wsX5_part (va_wsS RX5 108 yX5_isNoHalf wsX5_isNoHalf) := goodIn_app (goodIn_of _ (by decide +kernel)) ggX5_part_X5_isNoHalf
set_option maxRecDepth 20000 in
theorem ggX5_part_X3_hasDish : GoodIn wsX5_part wsX3_hasDish := goodIn_r _ [18, 19, 20, 50, 51, 52, 53, 54, 55] (by decide +kernel) (by decide +kernel)
set_option maxRecDepth 20000 in
theorem gX5_part_X3_hasDish : GoodIn wsX5_part (wsV RX5 111 RX3 yX3_hasDish wsX3_hasDish) := goodIn_app (goodIn_of _ (by decide +kernel)) ggX5_part_X3_hasDish
set_option maxRecDepth 20000 in
theorem ggX5_part_X3_leftAbove : GoodIn wsX5_part wsX3_leftAbove := goodIn_r _ [24, 25, 26, 27, 17, 28, 29, 19, 20, 30, 12, 31, 50, 51, 52, 53, 54, 55] (by decide +kernel) (by decide +kernel)
set_option maxRecDepth 20000 in
theorem gX5_part_X3_leftAbove : GoodIn wsX5_part (wsV RX5 150 RX3 yX3_leftAbove wsX3_leftAbove) := goodIn_app (goodIn_of _ (by decide +kernel)) ggX5_part_X3_leftAbove
set_option maxRecDepth 20000 in
theorem ggX5_part_X5_powerOfNine : GoodIn wsX5_part wsX5_powerOfNine := goodIn_r _ [34, 35] (by decide +kernel) (by decide +kernel)
set_option maxRecDepth 20000 in
theorem gX5_part_X5_powerOfNine : GoodIn wsX5_part (va_wsS RX5 154 yX5_powerOfNine wsX5_powerOfNine) := goodIn_app (goodIn_of _ (by decide +kernel)) ggX5_part_X5_powerOfNine
set_option maxRecDepth 20000 in
theorem ggX5_part_X5_inLeastTerms : GoodIn wsX5_part wsX5_inLeastTerms := goodIn_r _ [38, 39] (by decide +kernel) (by decide +kernel)
set_option maxRecDepth 20000 in
theorem gX5_part_X5_inLeastTerms : GoodIn wsX5_part (va_wsS RX5 133 yX5_inLeastTerms wsX5_inLeastTerms) := goodIn_app (goodIn_of _ (by decide +kernel)) ggX5_part_X5_inLeastTerms
set_option maxRecDepth 20000 in
theorem ggX5_back_X1_has : GoodIn wsX5_back wsX1_has := goodIn_r _ [10, 11, 42, 43] (by decide +kernel) (by decide +kernel)
set_option maxRecDepth 20000 in
theorem gX5_back_X1_has : GoodIn wsX5_back (wsV RX5 79 RX1 yX1_has wsX1_has) := goodIn_app (goodIn_of _ (by decide +kernel)) ggX5_back_X1_has
set_option maxRecDepth 20000 in
theorem ggX5_back_X5_isNoHundredth : GoodIn wsX5_back wsX5_isNoHundredth := goodIn_r _ [15] (by decide +kernel) (by decide +kernel)
set_option maxRecDepth 20000 in
theorem gX5_back_X5_isNoHundredth : GoodIn wsX5_back (va_wsS RX5 157 yX5_isNoHundredth wsX5_isNoHundredth) := goodIn_app (goodIn_of _ (by decide +kernel)) ggX5_back_X5_isNoHundredth
set_option maxRecDepth 20000 in
theorem ggX5_back_X3_leftAbove : GoodIn wsX5_back wsX3_leftAbove := goodIn_r _ [20, 21, 22, 23, 19, 24, 25, 26, 27, 28, 14, 29, 44, 45, 46, 47, 48, 49] (by decide +kernel) (by decide +kernel)
set_option maxRecDepth 20000 in
theorem gX5_back_X3_leftAbove : GoodIn wsX5_back (wsV RX5 150 RX3 yX3_leftAbove wsX3_leftAbove) := goodIn_app (goodIn_of _ (by decide +kernel)) ggX5_back_X3_leftAbove
set_option maxRecDepth 20000 in
theorem ggX5_back_X5_powerOfNine : GoodIn wsX5_back wsX5_powerOfNine := goodIn_r _ [32, 33] (by decide +kernel) (by decide +kernel)
set_option maxRecDepth 20000 in
theorem gX5_back_X5_powerOfNine : GoodIn wsX5_back (va_wsS RX5 154 yX5_powerOfNine wsX5_powerOfNine) := goodIn_app (goodIn_of _ (by decide +kernel)) ggX5_back_X5_powerOfNine
set_option maxRecDepth 20000 in
theorem ggX5_strongest_X1_has : GoodIn wsX5_strongest wsX1_has := goodIn_r _ [8, 9, 24, 25] (by decide +kernel) (by decide +kernel)
set_option maxRecDepth 20000 in
theorem gX5_strongest_X1_has : GoodIn wsX5_strongest (wsV RX5 79 RX1 yX1_has wsX1_has) := goodIn_app (goodIn_of _ (by decide +kernel)) ggX5_strongest_X1_has
set_option maxRecDepth 20000 in
theorem ggX5_strongest_X0_mostTaste : GoodIn wsX5_strongest wsX0_mostTaste := goodIn_r _ [14, 15, 29, 30, 31] (by decide +kernel) (by decide +kernel)
set_option maxRecDepth 20000 in
theorem gX5_strongest_X0_mostTaste : GoodIn wsX5_strongest (wsV RX5 162 RX0 yX0_mostTaste wsX0_mostTaste) := goodIn_app (goodIn_of _ (by decide +kernel)) ggX5_strongest_X0_mostTaste
set_option maxRecDepth 20000 in
theorem ggX5_harms_X1_has : GoodIn wsX5_harms wsX1_has := goodIn_r _ [8, 9, 36, 37] (by decide +kernel) (by decide +kernel)
set_option maxRecDepth 20000 in
theorem gX5_harms_X1_has : GoodIn wsX5_harms (wsV RX5 79 RX1 yX1_has wsX1_has) := goodIn_app (goodIn_of _ (by decide +kernel)) ggX5_harms_X1_has
set_option maxRecDepth 20000 in
theorem ggX5_harms_X5_isNoBans : GoodIn wsX5_harms wsX5_isNoBans := goodIn_r _ [13] (by decide +kernel) (by decide +kernel)
set_option maxRecDepth 20000 in
theorem gX5_harms_X5_isNoBans : GoodIn wsX5_harms (va_wsS RX5 166 yX5_isNoBans wsX5_isNoBans) := goodIn_app (goodIn_of _ (by decide +kernel)) ggX5_harms_X5_isNoBans
set_option maxRecDepth 20000 in
theorem ggX5_harms_X5_isNoPercent : GoodIn wsX5_harms wsX5_isNoPercent := goodIn_r _ [16] (by decide +kernel) (by decide +kernel)
set_option maxRecDepth 20000 in
theorem gX5_harms_X5_isNoPercent : GoodIn wsX5_harms (va_wsS RX5 144 yX5_isNoPercent wsX5_isNoPercent) := goodIn_app (goodIn_of _ (by decide +kernel)) ggX5_harms_X5_isNoPercent
set_option maxRecDepth 20000 in
theorem ggX5_harms_X0_isHarmful : GoodIn wsX5_harms wsX0_isHarmful := goodIn_r _ [21, 22, 23, 24, 25, 26, 20, 27, 41, 42, 43] (by decide +kernel) (by decide +kernel)
set_option maxRecDepth 20000 in
theorem gX5_harms_X0_isHarmful : GoodIn wsX5_harms (wsV RX5 169 RX0 yX0_isHarmful wsX0_isHarmful) := goodIn_app (goodIn_of _ (by decide +kernel)) ggX5_harms_X0_isHarmful
set_option maxRecDepth 20000 in
theorem ggX5_first_X5_isNoBans : GoodIn wsX5_first wsX5_isNoBans := goodIn_r _ [7] (by decide +kernel) (by decide +kernel)
set_option maxRecDepth 20000 in
theorem gX5_first_X5_isNoBans : GoodIn wsX5_first (va_wsS RX5 166 yX5_isNoBans wsX5_isNoBans) := goodIn_app (goodIn_of _ (by decide +kernel)) ggX5_first_X5_isNoBans
set_option maxRecDepth 20000 in
theorem ggX5_first_X5_isNoPercent : GoodIn wsX5_first wsX5_isNoPercent := goodIn_r _ [10] (by decide +kernel) (by decide +kernel)
set_option maxRecDepth 20000 in
theorem gX5_first_X5_isNoPercent : GoodIn wsX5_first (va_wsS RX5 144 yX5_isNoPercent wsX5_isNoPercent) := goodIn_app (goodIn_of _ (by decide +kernel)) ggX5_first_X5_isNoPercent
set_option maxRecDepth 20000 in
theorem ggX5_first_X5_bytesRefusal : GoodIn wsX5_first wsX5_bytesRefusal := goodIn_r _ [14, 1, 15, 16, 17, 18, 6, 19, 20, 21, 22, 23, 24, 25, 26, 27, 28, 29, 30, 31, 32, 116, 117, 118, 119, 120, 121, 122, 123, 124, 125, 126, 127, 128, 129] (by decide +kernel) (by decide +kernel)
set_option maxRecDepth 20000 in
theorem gX5_first_X5_bytesRefusal : GoodIn wsX5_first (wsV RX5 47 RX5 yX5_bytesRefusal wsX5_bytesRefusal) := goodIn_app (goodIn_of _ (by decide +kernel)) ggX5_first_X5_bytesRefusal
set_option maxRecDepth 20000 in
theorem ggX5_first_X5_isPlan : GoodIn wsX5_first wsX5_isPlan := goodIn_r _ [36, 37, 3, 38, 39, 40, 26, 41, 42, 43, 44, 45, 46, 47, 48, 49, 50, 51, 52, 53, 54, 55, 56, 57, 58, 59, 6, 60, 61, 62, 124, 125, 126, 127, 128, 129, 116, 117, 118, 119, 120, 121, 122, 123, 130, 131] (by decide +kernel) (by decide +kernel)
set_option maxRecDepth 20000 in
theorem gX5_first_X5_isPlan : GoodIn wsX5_first (wsV RX5 172 RX5 yX5_isPlan wsX5_isPlan) := goodIn_app (goodIn_of _ (by decide +kernel)) ggX5_first_X5_isPlan
set_option maxRecDepth 20000 in
theorem ggX5_first_X2_thinkOf : GoodIn wsX5_first wsX2_thinkOf := goodIn_r _ [67, 68, 69, 70, 71, 72, 73, 74, 75, 76, 77, 78, 79, 80, 81, 82, 130, 131, 132, 133, 134, 135, 136, 137, 138, 139, 140, 141, 142, 143, 144] (by decide +kernel) (by decide +kernel)
set_option maxRecDepth 20000 in
theorem gX5_first_X2_thinkOf : GoodIn wsX5_first (wsV RX5 176 RX2 yX2_thinkOf wsX2_thinkOf) := goodIn_app (goodIn_of _ (by decide +kernel)) ggX5_first_X2_thinkOf
set_option maxRecDepth 20000 in
theorem ggX5_first_X2_firstHarm : GoodIn wsX5_first wsX2_firstHarm := goodIn_r _ [86, 87, 88, 69, 72, 89, 90, 91, 66, 92, 70, 71, 93, 94, 95, 78, 96, 82, 97, 39, 40, 26, 41, 42, 43, 44, 45, 46, 47, 98, 99, 100, 101, 81, 102, 80, 103, 6, 104, 105, 106, 107, 108, 109, 110, 111, 112, 113, 114, 115, 124, 125, 126, 127, 128, 129, 132, 133, 134, 135, 136, 137, 138, 142, 143, 144] (by decide +kernel) (by decide +kernel)
set_option maxRecDepth 20000 in
theorem gX5_first_X2_firstHarm : GoodIn wsX5_first (wsV RX5 180 RX2 yX2_firstHarm wsX2_firstHarm) := goodIn_app (goodIn_of _ (by decide +kernel)) ggX5_first_X2_firstHarm
set_option maxRecDepth 20000 in
theorem ggX5_week_X5_isNoShelf : GoodIn wsX5_week wsX5_isNoShelf := goodIn_r _ [10] (by decide +kernel) (by decide +kernel)
set_option maxRecDepth 20000 in
theorem gX5_week_X5_isNoShelf : GoodIn wsX5_week (va_wsS RX5 183 yX5_isNoShelf wsX5_isNoShelf) := goodIn_app (goodIn_of _ (by decide +kernel)) ggX5_week_X5_isNoShelf
set_option maxRecDepth 20000 in
theorem ggX5_week_X5_isNoBans : GoodIn wsX5_week wsX5_isNoBans := goodIn_r _ [13] (by decide +kernel) (by decide +kernel)
set_option maxRecDepth 20000 in
theorem gX5_week_X5_isNoBans : GoodIn wsX5_week (va_wsS RX5 166 yX5_isNoBans wsX5_isNoBans) := goodIn_app (goodIn_of _ (by decide +kernel)) ggX5_week_X5_isNoBans
set_option maxRecDepth 20000 in
theorem ggX5_week_X5_isNoPercent : GoodIn wsX5_week wsX5_isNoPercent := goodIn_r _ [16] (by decide +kernel) (by decide +kernel)
set_option maxRecDepth 20000 in
theorem gX5_week_X5_isNoPercent : GoodIn wsX5_week (va_wsS RX5 144 yX5_isNoPercent wsX5_isNoPercent) := goodIn_app (goodIn_of _ (by decide +kernel)) ggX5_week_X5_isNoPercent
set_option maxRecDepth 20000 in
theorem ggX5_week_X5_isNoHalf : GoodIn wsX5_week wsX5_isNoHalf := goodIn_r _ [19] (by decide +kernel) (by decide +kernel)
set_option maxRecDepth 20000 in
theorem gX5_week_X5_isNoHalf : GoodIn wsX5_week (va_wsS RX5 108 yX5_isNoHalf wsX5_isNoHalf) := goodIn_app (goodIn_of _ (by decide +kernel)) ggX5_week_X5_isNoHalf
set_option maxRecDepth 20000 in
theorem ggX5_week_X5_bytesRefusal : GoodIn wsX5_week wsX5_bytesRefusal := goodIn_r _ [23, 3, 24, 25, 26, 27, 9, 28, 7, 8, 10, 29, 30, 31, 32, 33, 34, 35, 36, 37, 38, 119, 120, 121, 122, 123, 124, 125, 126, 136, 137, 138, 139, 140, 141] (by decide +kernel) (by decide +kernel)
set_option maxRecDepth 20000 in
theorem gX5_week_X5_bytesRefusal : GoodIn wsX5_week (wsV RX5 47 RX5 yX5_bytesRefusal wsX5_bytesRefusal) := goodIn_app (goodIn_of _ (by decide +kernel)) ggX5_week_X5_bytesRefusal
set_option maxRecDepth 20000 in
theorem ggX5_week_X5_isRowOfDishes : GoodIn wsX5_week wsX5_isRowOfDishes := goodIn_r _ [41, 42, 43, 44, 45, 32, 46, 47, 48, 49, 50, 51, 52, 53, 54, 55, 56, 57, 9, 58, 59, 60, 136, 137, 138, 139, 140, 141] (by decide +kernel) (by decide +kernel)
set_option maxRecDepth 20000 in
theorem gX5_week_X5_isRowOfDishes : GoodIn wsX5_week (va_wsS RX5 186 yX5_isRowOfDishes wsX5_isRowOfDishes) := goodIn_app (goodIn_of _ (by decide +kernel)) ggX5_week_X5_isRowOfDishes
set_option maxRecDepth 20000 in
theorem ggX5_week_X2_thinkOf : GoodIn wsX5_week wsX2_thinkOf := goodIn_r _ [65, 66, 67, 68, 69, 70, 71, 72, 73, 74, 75, 76, 77, 78, 79, 80, 127, 128, 129, 130, 131, 132, 133, 134, 135, 142, 143, 144, 145, 146, 147] (by decide +kernel) (by decide +kernel)
set_option maxRecDepth 20000 in
theorem gX5_week_X2_thinkOf : GoodIn wsX5_week (wsV RX5 176 RX2 yX2_thinkOf wsX2_thinkOf) := goodIn_app (goodIn_of _ (by decide +kernel)) ggX5_week_X2_thinkOf
set_option maxRecDepth 20000 in
theorem ggX5_week_X2_countWays : GoodIn wsX5_week wsX2_countWays := goodIn_r _ [84, 85, 86, 87, 88, 64, 89, 90, 91, 67, 70, 73, 74, 75, 76, 77, 78, 79, 80, 92, 93, 94, 95, 68, 69, 96, 97, 98, 99, 100, 48, 49, 32, 50, 51, 52, 53, 54, 55, 56, 101, 102, 103, 104, 105, 106, 9, 107, 108, 109, 110, 111, 112, 113, 114, 115, 116, 117, 118, 129, 130, 131, 132, 133, 134, 135, 136, 137, 138, 139, 140, 141, 145, 146, 147] (by decide +kernel) (by decide +kernel)
set_option maxRecDepth 20000 in
theorem gX5_week_X2_countWays : GoodIn wsX5_week (wsV RX5 189 RX2 yX2_countWays wsX2_countWays) := goodIn_app (goodIn_of _ (by decide +kernel)) ggX5_week_X2_countWays
set_option maxRecDepth 20000 in
theorem ggX5_bring_X1_has : GoodIn wsX5_bring wsX1_has := goodIn_r _ [9, 10, 76, 77] (by decide +kernel) (by decide +kernel)
set_option maxRecDepth 20000 in
theorem gX5_bring_X1_has : GoodIn wsX5_bring (wsV RX5 79 RX1 yX1_has wsX1_has) := goodIn_app (goodIn_of _ (by decide +kernel)) ggX5_bring_X1_has
set_option maxRecDepth 20000 in
theorem ggX5_bring_X5_isNoTaste : GoodIn wsX5_bring wsX5_isNoTaste := goodIn_r _ [14] (by decide +kernel) (by decide +kernel)
set_option maxRecDepth 20000 in
theorem gX5_bring_X5_isNoTaste : GoodIn wsX5_bring (va_wsS RX5 120 yX5_isNoTaste wsX5_isNoTaste) := goodIn_app (goodIn_of _ (by decide +kernel)) ggX5_bring_X5_isNoTaste
set_option maxRecDepth 20000 in
theorem ggX5_bring_X5_isNoPercent : GoodIn wsX5_bring wsX5_isNoPercent := goodIn_r _ [17] (by decide +kernel) (by decide +kernel)
set_option maxRecDepth 20000 in
theorem gX5_bring_X5_isNoPercent : GoodIn wsX5_bring (va_wsS RX5 144 yX5_isNoPercent wsX5_isNoPercent) := goodIn_app (goodIn_of _ (by decide +kernel)) ggX5_bring_X5_isNoPercent
set_option maxRecDepth 20000 in
theorem ggX5_bring_X5_isNoFigure : GoodIn wsX5_bring wsX5_isNoFigure := goodIn_r _ [20] (by decide +kernel) (by decide +kernel)
set_option maxRecDepth 20000 in
theorem gX5_bring_X5_isNoFigure : GoodIn wsX5_bring (va_wsS RX5 199 yX5_isNoFigure wsX5_isNoFigure) := goodIn_app (goodIn_of _ (by decide +kernel)) ggX5_bring_X5_isNoFigure
set_option maxRecDepth 20000 in
theorem ggX5_bring_X5_isNoHalf : GoodIn wsX5_bring wsX5_isNoHalf := goodIn_r _ [23] (by decide +kernel) (by decide +kernel)
set_option maxRecDepth 20000 in
theorem gX5_bring_X5_isNoHalf : GoodIn wsX5_bring (va_wsS RX5 108 yX5_isNoHalf wsX5_isNoHalf) := goodIn_app (goodIn_of _ (by decide +kernel)) ggX5_bring_X5_isNoHalf
set_option maxRecDepth 20000 in
theorem ggX5_bring_X5_firstBringing : GoodIn wsX5_bring wsX5_firstBringing := goodIn_r _ [27, 28, 29, 30, 13, 31, 32, 33, 34, 35, 36, 37, 38, 39, 40, 41, 42, 43, 44, 45, 46, 47, 48, 49, 50, 51, 52, 53, 54, 55, 56, 57, 58, 59, 60, 61, 62, 63, 68, 69, 70, 71, 72, 73, 74, 75, 81, 82, 83] (by decide +kernel) (by decide +kernel)
set_option maxRecDepth 20000 in
theorem gX5_bring_X5_firstBringing : GoodIn wsX5_bring (wsV RX5 202 RX5 yX5_firstBringing wsX5_firstBringing) := goodIn_app (goodIn_of _ (by decide +kernel)) ggX5_bring_X5_firstBringing
set_option maxRecDepth 20000 in
theorem ggX5_bring_X5_firstKind : GoodIn wsX5_bring wsX5_firstKind := goodIn_r _ [66, 67, 44, 13, 45] (by decide +kernel) (by decide +kernel)
set_option maxRecDepth 20000 in
theorem gX5_bring_X5_firstKind : GoodIn wsX5_bring (va_wsS RX5 206 yX5_firstKind wsX5_firstKind) := goodIn_app (goodIn_of _ (by decide +kernel)) ggX5_bring_X5_firstKind
set_option maxRecDepth 20000 in
theorem ggX5_firstBringing_X5_codesOf : GoodIn wsX5_firstBringing wsX5_codesOf := goodIn_r _ [5] (by decide +kernel) (by decide +kernel)
set_option maxRecDepth 20000 in
theorem gX5_firstBringing_X5_codesOf : GoodIn wsX5_firstBringing (va_wsS RX5 209 yX5_codesOf wsX5_codesOf) := goodIn_app (goodIn_of _ (by decide +kernel)) ggX5_firstBringing_X5_codesOf
set_option maxRecDepth 20000 in
theorem ggX5_firstBringing_X0_become : GoodIn wsX5_firstBringing wsX0_become := goodIn_r _ [10, 11, 12, 13, 46, 47, 48] (by decide +kernel) (by decide +kernel)
set_option maxRecDepth 20000 in
theorem gX5_firstBringing_X0_become : GoodIn wsX5_firstBringing (wsV RX5 212 RX0 yX0_become wsX0_become) := goodIn_app (goodIn_of _ (by decide +kernel)) ggX5_firstBringing_X0_become
set_option maxRecDepth 20000 in
theorem ggX5_firstBringing_X0_takeCode : GoodIn wsX5_firstBringing wsX0_takeCode := goodIn_r _ [17, 18, 4, 19, 20, 21, 22, 9, 23, 12, 24, 11, 13, 25, 26, 27, 28, 46, 47, 48] (by decide +kernel) (by decide +kernel)
set_option maxRecDepth 20000 in
theorem gX5_firstBringing_X0_takeCode : GoodIn wsX5_firstBringing (wsV RX5 215 RX0 yX0_takeCode wsX0_takeCode) := goodIn_app (goodIn_of _ (by decide +kernel)) ggX5_firstBringing_X0_takeCode
set_option maxRecDepth 20000 in
theorem ggX5_firstBringing_X0_isOver : GoodIn wsX5_firstBringing wsX0_isOver := goodIn_r _ [32, 33, 11, 34, 35, 36, 9, 37, 46, 47, 48] (by decide +kernel) (by decide +kernel)
set_option maxRecDepth 20000 in
theorem gX5_firstBringing_X0_isOver : GoodIn wsX5_firstBringing (wsV RX5 147 RX0 yX0_isOver wsX0_isOver) := goodIn_app (goodIn_of _ (by decide +kernel)) ggX5_firstBringing_X0_isOver
set_option maxRecDepth 20000 in
theorem ggX5_mayHave_X1_has : GoodIn wsX5_mayHave wsX1_has := goodIn_r _ [9, 10, 60, 61] (by decide +kernel) (by decide +kernel)
set_option maxRecDepth 20000 in
theorem gX5_mayHave_X1_has : GoodIn wsX5_mayHave (wsV RX5 79 RX1 yX1_has wsX1_has) := goodIn_app (goodIn_of _ (by decide +kernel)) ggX5_mayHave_X1_has
set_option maxRecDepth 20000 in
theorem ggX5_mayHave_X5_isNoFigure : GoodIn wsX5_mayHave wsX5_isNoFigure := goodIn_r _ [14] (by decide +kernel) (by decide +kernel)
set_option maxRecDepth 20000 in
theorem gX5_mayHave_X5_isNoFigure : GoodIn wsX5_mayHave (va_wsS RX5 199 yX5_isNoFigure wsX5_isNoFigure) := goodIn_app (goodIn_of _ (by decide +kernel)) ggX5_mayHave_X5_isNoFigure
set_option maxRecDepth 20000 in
theorem ggX5_mayHave_X5_isNoHalf : GoodIn wsX5_mayHave wsX5_isNoHalf := goodIn_r _ [17] (by decide +kernel) (by decide +kernel)
set_option maxRecDepth 20000 in
theorem gX5_mayHave_X5_isNoHalf : GoodIn wsX5_mayHave (va_wsS RX5 108 yX5_isNoHalf wsX5_isNoHalf) := goodIn_app (goodIn_of _ (by decide +kernel)) ggX5_mayHave_X5_isNoHalf
set_option maxRecDepth 20000 in
theorem ggX5_mayHave_X5_codesOf : GoodIn wsX5_mayHave wsX5_codesOf := goodIn_r _ [20] (by decide +kernel) (by decide +kernel)
set_option maxRecDepth 20000 in
theorem gX5_mayHave_X5_codesOf : GoodIn wsX5_mayHave (va_wsS RX5 209 yX5_codesOf wsX5_codesOf) := goodIn_app (goodIn_of _ (by decide +kernel)) ggX5_mayHave_X5_codesOf
set_option maxRecDepth 20000 in
theorem ggX5_mayHave_X0_clear : GoodIn wsX5_mayHave wsX0_clear := goodIn_r _ [25, 26, 27, 28, 65, 66, 67] (by decide +kernel) (by decide +kernel)
set_option maxRecDepth 20000 in
theorem gX5_mayHave_X0_clear : GoodIn wsX5_mayHave (wsV RX5 219 RX0 yX0_clear wsX0_clear) := goodIn_app (goodIn_of _ (by decide +kernel)) ggX5_mayHave_X0_clear
set_option maxRecDepth 20000 in
theorem ggX5_mayHave_X0_takeCode : GoodIn wsX5_mayHave wsX0_takeCode := goodIn_r _ [32, 33, 13, 34, 35, 36, 37, 24, 38, 27, 39, 26, 28, 40, 41, 42, 43, 65, 66, 67] (by decide +kernel) (by decide +kernel)
set_option maxRecDepth 20000 in
theorem gX5_mayHave_X0_takeCode : GoodIn wsX5_mayHave (wsV RX5 215 RX0 yX0_takeCode wsX0_takeCode) := goodIn_app (goodIn_of _ (by decide +kernel)) ggX5_mayHave_X0_takeCode
set_option maxRecDepth 20000 in
theorem ggX5_mayHave_X0_isLike : GoodIn wsX5_mayHave wsX0_isLike := goodIn_r _ [47, 26, 27, 65, 66, 67] (by decide +kernel) (by decide +kernel)
set_option maxRecDepth 20000 in
theorem gX5_mayHave_X0_isLike : GoodIn wsX5_mayHave (wsV RX5 222 RX0 yX0_isLike wsX0_isLike) := goodIn_app (goodIn_of _ (by decide +kernel)) ggX5_mayHave_X0_isLike
set_option maxRecDepth 20000 in
theorem ggX5_mayHave_X5_digitsOf : GoodIn wsX5_mayHave wsX5_digitsOf := goodIn_r _ [50, 51, 33, 13, 34] (by decide +kernel) (by decide +kernel)
set_option maxRecDepth 20000 in
theorem gX5_mayHave_X5_digitsOf : GoodIn wsX5_mayHave (va_wsS RX5 226 yX5_digitsOf wsX5_digitsOf) := goodIn_app (goodIn_of _ (by decide +kernel)) ggX5_mayHave_X5_digitsOf
set_option maxRecDepth 20000 in
theorem ggX5_tells_X5_isNoHalf : GoodIn wsX5_tells wsX5_isNoHalf := goodIn_r _ [6] (by decide +kernel) (by decide +kernel)
set_option maxRecDepth 20000 in
theorem gX5_tells_X5_isNoHalf : GoodIn wsX5_tells (va_wsS RX5 108 yX5_isNoHalf wsX5_isNoHalf) := goodIn_app (goodIn_of _ (by decide +kernel)) ggX5_tells_X5_isNoHalf
set_option maxRecDepth 20000 in
theorem ggX5_tells_X5_mostAlike : GoodIn wsX5_tells wsX5_mostAlike := goodIn_r _ [10, 1, 2, 11, 12, 13, 14, 15, 16, 17, 18, 19, 20, 21, 22, 23, 24, 25, 26, 27, 28, 29, 30, 31, 32, 33, 34, 35, 36, 37, 38, 39, 40, 41, 42, 43, 44] (by decide +kernel) (by decide +kernel)
set_option maxRecDepth 20000 in
theorem gX5_tells_X5_mostAlike : GoodIn wsX5_tells (wsV RX5 229 RX5 yX5_mostAlike wsX5_mostAlike) := goodIn_app (goodIn_of _ (by decide +kernel)) ggX5_tells_X5_mostAlike
set_option maxRecDepth 20000 in
theorem ggX5_mostAlike_X0_portionOf : GoodIn wsX5_mostAlike wsX0_portionOf := goodIn_r _ [14, 15, 16, 17, 18, 19, 13, 20, 34, 35, 36] (by decide +kernel) (by decide +kernel)
set_option maxRecDepth 20000 in
theorem gX5_mostAlike_X0_portionOf : GoodIn wsX5_mostAlike (wsV RX5 141 RX0 yX0_portionOf wsX0_portionOf) := goodIn_app (goodIn_of _ (by decide +kernel)) ggX5_mostAlike_X0_portionOf
set_option maxRecDepth 20000 in
theorem ggX5_lent_X1_has : GoodIn wsX5_lent wsX1_has := goodIn_r _ [14, 15, 78, 79] (by decide +kernel) (by decide +kernel)
set_option maxRecDepth 20000 in
theorem gX5_lent_X1_has : GoodIn wsX5_lent (wsV RX5 79 RX1 yX1_has wsX1_has) := goodIn_app (goodIn_of _ (by decide +kernel)) ggX5_lent_X1_has
set_option maxRecDepth 20000 in
theorem ggX5_lent_X5_dishRefusal : GoodIn wsX5_lent wsX5_dishRefusal := goodIn_r _ [20, 4, 21, 22, 19, 23, 24, 25, 26, 27, 28, 29, 30, 31, 32, 33, 64, 65, 66, 67, 68, 69, 70, 71, 72, 73, 74, 75, 76, 77] (by decide +kernel) (by decide +kernel)
set_option maxRecDepth 20000 in
theorem gX5_lent_X5_dishRefusal : GoodIn wsX5_lent (wsV RX5 83 RX5 yX5_dishRefusal wsX5_dishRefusal) := goodIn_app (goodIn_of _ (by decide +kernel)) ggX5_lent_X5_dishRefusal
set_option maxRecDepth 20000 in
theorem ggX5_lent_X0_become : GoodIn wsX5_lent wsX0_become := goodIn_r _ [38, 39, 40, 41, 83, 84, 85] (by decide +kernel) (by decide +kernel)
set_option maxRecDepth 20000 in
theorem gX5_lent_X0_become : GoodIn wsX5_lent (wsV RX5 212 RX0 yX0_become wsX0_become) := goodIn_app (goodIn_of _ (by decide +kernel)) ggX5_lent_X0_become
set_option maxRecDepth 20000 in
theorem ggX5_lent_X0_takeIn : GoodIn wsX5_lent wsX0_takeIn := goodIn_r _ [45, 40, 46, 39, 41, 47, 19, 48, 49, 50, 83, 84, 85] (by decide +kernel) (by decide +kernel)
set_option maxRecDepth 20000 in
theorem gX5_lent_X0_takeIn : GoodIn wsX5_lent (wsV RX5 239 RX0 yX0_takeIn wsX0_takeIn) := goodIn_app (goodIn_of _ (by decide +kernel)) ggX5_lent_X0_takeIn
set_option maxRecDepth 20000 in
theorem ggX5_lent_X0_portionOf : GoodIn wsX5_lent wsX0_portionOf := goodIn_r _ [54, 55, 39, 56, 57, 58, 37, 59, 83, 84, 85] (by decide +kernel) (by decide +kernel)
set_option maxRecDepth 20000 in
theorem gX5_lent_X0_portionOf : GoodIn wsX5_lent (wsV RX5 141 RX0 yX0_portionOf wsX0_portionOf) := goodIn_app (goodIn_of _ (by decide +kernel)) ggX5_lent_X0_portionOf
set_option maxRecDepth 20000 in
theorem ggX5_lent_X0_clear : GoodIn wsX5_lent wsX0_clear := goodIn_r _ [63, 39, 40, 41, 83, 84, 85] (by decide +kernel) (by decide +kernel)
set_option maxRecDepth 20000 in
theorem gX5_lent_X0_clear : GoodIn wsX5_lent (wsV RX5 219 RX0 yX0_clear wsX0_clear) := goodIn_app (goodIn_of _ (by decide +kernel)) ggX5_lent_X0_clear
set_option maxRecDepth 20000 in
theorem ggX5_gone_X5_isNoKind : GoodIn wsX5_gone wsX5_isNoKind := goodIn_r _ [6] (by decide +kernel) (by decide +kernel)
set_option maxRecDepth 20000 in
theorem gX5_gone_X5_isNoKind : GoodIn wsX5_gone (va_wsS RX5 243 yX5_isNoKind wsX5_isNoKind) := goodIn_app (goodIn_of _ (by decide +kernel)) ggX5_gone_X5_isNoKind
set_option maxRecDepth 20000 in
theorem ggX5_gone_X5_isNoFigure : GoodIn wsX5_gone wsX5_isNoFigure := goodIn_r _ [9] (by decide +kernel) (by decide +kernel)
set_option maxRecDepth 20000 in
theorem gX5_gone_X5_isNoFigure : GoodIn wsX5_gone (va_wsS RX5 199 yX5_isNoFigure wsX5_isNoFigure) := goodIn_app (goodIn_of _ (by decide +kernel)) ggX5_gone_X5_isNoFigure
set_option maxRecDepth 20000 in
theorem ggX5_gone_X5_isNoHundredth : GoodIn wsX5_gone wsX5_isNoHundredth := goodIn_r _ [12] (by decide +kernel) (by decide +kernel)
set_option maxRecDepth 20000 in
theorem gX5_gone_X5_isNoHundredth : GoodIn wsX5_gone (va_wsS RX5 157 yX5_isNoHundredth wsX5_isNoHundredth) := goodIn_app (goodIn_of _ (by decide +kernel)) ggX5_gone_X5_isNoHundredth
set_option maxRecDepth 20000 in
theorem ggX5_gone_X5_keepsOf : GoodIn wsX5_gone wsX5_keepsOf := goodIn_r _ [15] (by decide +kernel) (by decide +kernel)
set_option maxRecDepth 20000 in
theorem gX5_gone_X5_keepsOf : GoodIn wsX5_gone (va_wsS RX5 246 yX5_keepsOf wsX5_keepsOf) := goodIn_app (goodIn_of _ (by decide +kernel)) ggX5_gone_X5_keepsOf
set_option maxRecDepth 20000 in
theorem ggX5_seeded_X5_isNoTaste : GoodIn wsX5_seeded wsX5_isNoTaste := goodIn_r _ [5] (by decide +kernel) (by decide +kernel)
set_option maxRecDepth 20000 in
theorem gX5_seeded_X5_isNoTaste : GoodIn wsX5_seeded (va_wsS RX5 120 yX5_isNoTaste wsX5_isNoTaste) := goodIn_app (goodIn_of _ (by decide +kernel)) ggX5_seeded_X5_isNoTaste
set_option maxRecDepth 20000 in
theorem ggX5_seeded_X0_clear : GoodIn wsX5_seeded wsX0_clear := goodIn_r _ [10, 11, 12, 13, 49, 50, 51] (by decide +kernel) (by decide +kernel)
set_option maxRecDepth 20000 in
theorem gX5_seeded_X0_clear : GoodIn wsX5_seeded (wsV RX5 219 RX0 yX0_clear wsX0_clear) := goodIn_app (goodIn_of _ (by decide +kernel)) ggX5_seeded_X0_clear
set_option maxRecDepth 20000 in
theorem ggX5_seeded_X5_nextSeed : GoodIn wsX5_seeded wsX5_nextSeed := goodIn_r _ [16, 17] (by decide +kernel) (by decide +kernel)
set_option maxRecDepth 20000 in
theorem gX5_seeded_X5_nextSeed : GoodIn wsX5_seeded (va_wsS RX5 251 yX5_nextSeed wsX5_nextSeed) := goodIn_app (goodIn_of _ (by decide +kernel)) ggX5_seeded_X5_nextSeed
set_option maxRecDepth 20000 in
theorem ggX5_seeded_X5_drawOf : GoodIn wsX5_seeded wsX5_drawOf := goodIn_r _ [20, 21, 22] (by decide +kernel) (by decide +kernel)
set_option maxRecDepth 20000 in
theorem gX5_seeded_X5_drawOf : GoodIn wsX5_seeded (va_wsS RX5 254 yX5_drawOf wsX5_drawOf) := goodIn_app (goodIn_of _ (by decide +kernel)) ggX5_seeded_X5_drawOf
set_option maxRecDepth 20000 in
theorem ggX5_seeded_X0_takeIn : GoodIn wsX5_seeded wsX0_takeIn := goodIn_r _ [26, 12, 27, 11, 13, 28, 4, 29, 30, 31, 49, 50, 51] (by decide +kernel) (by decide +kernel)
set_option maxRecDepth 20000 in
theorem gX5_seeded_X0_takeIn : GoodIn wsX5_seeded (wsV RX5 239 RX0 yX0_takeIn wsX0_takeIn) := goodIn_app (goodIn_of _ (by decide +kernel)) ggX5_seeded_X0_takeIn
set_option maxRecDepth 20000 in
theorem ggX5_seeded_X0_portionOf : GoodIn wsX5_seeded wsX0_portionOf := goodIn_r _ [35, 36, 11, 37, 38, 39, 9, 40, 49, 50, 51] (by decide +kernel) (by decide +kernel)
set_option maxRecDepth 20000 in
theorem gX5_seeded_X0_portionOf : GoodIn wsX5_seeded (wsV RX5 141 RX0 yX0_portionOf wsX0_portionOf) := goodIn_app (goodIn_of _ (by decide +kernel)) ggX5_seeded_X0_portionOf
set_option maxRecDepth 20000 in
theorem ggX5_judge_X5_rowRefusal : GoodIn wsX5_judge wsX5_rowRefusal := goodIn_r _ [16, 1, 17, 18, 15, 19, 20, 21, 22, 23, 24, 25, 26, 27, 28, 29, 47, 48, 49, 50, 51, 52, 53, 54, 57, 58, 59, 60, 61, 62] (by decide +kernel) (by decide +kernel)
set_option maxRecDepth 20000 in
theorem gX5_judge_X5_rowRefusal : GoodIn wsX5_judge (wsV RX5 257 RX5 yX5_rowRefusal wsX5_rowRefusal) := goodIn_app (goodIn_of _ (by decide +kernel)) ggX5_judge_X5_rowRefusal
set_option maxRecDepth 20000 in
theorem ggX5_judge_X4_leastNumber : GoodIn wsX5_judge wsX4_leastNumber := goodIn_r _ [33, 34, 35, 57, 58, 59, 60, 61, 62] (by decide +kernel) (by decide +kernel)
set_option maxRecDepth 20000 in
theorem gX5_judge_X4_leastNumber : GoodIn wsX5_judge (wsV RX5 263 RX4 yX4_leastNumber wsX4_leastNumber) := goodIn_app (goodIn_of _ (by decide +kernel)) ggX5_judge_X4_leastNumber
set_option maxRecDepth 20000 in
theorem ggX5_judge_X0_portionOf : GoodIn wsX5_judge wsX0_portionOf := goodIn_r _ [40, 41, 42, 43, 44, 45, 39, 46, 66, 67, 68] (by decide +kernel) (by decide +kernel)
set_option maxRecDepth 20000 in
theorem gX5_judge_X0_portionOf : GoodIn wsX5_judge (wsV RX5 141 RX0 yX0_portionOf wsX0_portionOf) := goodIn_app (goodIn_of _ (by decide +kernel)) ggX5_judge_X0_portionOf
set_option maxRecDepth 20000 in
theorem ggX5_image_X1_become : GoodIn wsX5_image wsX1_become := goodIn_r _ [9, 10, 11, 12, 13, 14, 15, 16, 17, 18, 19, 20, 21, 22, 23, 24, 25, 26, 27, 28, 29, 30, 31, 40, 41, 42, 43, 44, 45, 46, 47] (by decide +kernel) (by decide +kernel)
set_option maxRecDepth 20000 in
theorem gX5_image_X1_become : GoodIn wsX5_image (wsV RX5 55 RX1 yX1_become wsX1_become) := goodIn_app (goodIn_of _ (by decide +kernel)) ggX5_image_X1_become
set_option maxRecDepth 20000 in
theorem ggX5_restore_X1_become : GoodIn wsX5_restore wsX1_become := goodIn_r _ [9, 10, 11, 12, 13, 14, 15, 16, 17, 18, 19, 20, 21, 22, 23, 24, 25, 26, 27, 28, 29, 30, 31, 40, 41, 42, 43, 44, 45, 46, 47] (by decide +kernel) (by decide +kernel)
set_option maxRecDepth 20000 in
theorem gX5_restore_X1_become : GoodIn wsX5_restore (wsV RX5 55 RX1 yX1_become wsX1_become) := goodIn_app (goodIn_of _ (by decide +kernel)) ggX5_restore_X1_become
set_option maxRecDepth 20000 in
theorem ggX5_count_X0_totalAbove : GoodIn wsX5_count wsX0_totalAbove := goodIn_r _ [10, 11, 33, 34, 35] (by decide +kernel) (by decide +kernel)
set_option maxRecDepth 20000 in
theorem gX5_count_X0_totalAbove : GoodIn wsX5_count (wsV RX5 137 RX0 yX0_totalAbove wsX0_totalAbove) := goodIn_app (goodIn_of _ (by decide +kernel)) ggX5_count_X0_totalAbove
set_option maxRecDepth 20000 in
theorem ggX5_count_X3_howManyOf : GoodIn wsX5_count wsX3_howManyOf := goodIn_r _ [16, 17, 18, 19, 30, 31, 32, 33, 34, 35] (by decide +kernel) (by decide +kernel)
set_option maxRecDepth 20000 in
theorem gX5_count_X3_howManyOf : GoodIn wsX5_count (wsV RX5 273 RX3 yX3_howManyOf wsX3_howManyOf) := goodIn_app (goodIn_of _ (by decide +kernel)) ggX5_count_X3_howManyOf
set_option maxRecDepth 20000 in
theorem ggX5_keep_X5_isNoShelf : GoodIn wsX5_keep wsX5_isNoShelf := goodIn_r _ [5] (by decide +kernel) (by decide +kernel)
set_option maxRecDepth 20000 in
theorem gX5_keep_X5_isNoShelf : GoodIn wsX5_keep (va_wsS RX5 183 yX5_isNoShelf wsX5_isNoShelf) := goodIn_app (goodIn_of _ (by decide +kernel)) ggX5_keep_X5_isNoShelf
set_option maxRecDepth 20000 in
theorem ggX5_keep_X5_isNoHalf : GoodIn wsX5_keep wsX5_isNoHalf := goodIn_r _ [8] (by decide +kernel) (by decide +kernel)
set_option maxRecDepth 20000 in
theorem gX5_keep_X5_isNoHalf : GoodIn wsX5_keep (va_wsS RX5 108 yX5_isNoHalf wsX5_isNoHalf) := goodIn_app (goodIn_of _ (by decide +kernel)) ggX5_keep_X5_isNoHalf
set_option maxRecDepth 20000 in
theorem ggX5_keep_X4_holdNothing : GoodIn wsX5_keep wsX4_holdNothing := goodIn_r _ [13, 14, 35, 36, 37, 38, 39, 40] (by decide +kernel) (by decide +kernel)
set_option maxRecDepth 20000 in
theorem gX5_keep_X4_holdNothing : GoodIn wsX5_keep (wsV RX5 276 RX4 yX4_holdNothing wsX4_holdNothing) := goodIn_app (goodIn_of _ (by decide +kernel)) ggX5_keep_X4_holdNothing
set_option maxRecDepth 20000 in
theorem ggX5_keep_X5_isNoKind : GoodIn wsX5_keep wsX5_isNoKind := goodIn_r _ [17] (by decide +kernel) (by decide +kernel)
set_option maxRecDepth 20000 in
theorem gX5_keep_X5_isNoKind : GoodIn wsX5_keep (va_wsS RX5 243 yX5_isNoKind wsX5_isNoKind) := goodIn_app (goodIn_of _ (by decide +kernel)) ggX5_keep_X5_isNoKind
set_option maxRecDepth 20000 in
theorem ggX5_keep_X5_isNoFigure : GoodIn wsX5_keep wsX5_isNoFigure := goodIn_r _ [20] (by decide +kernel) (by decide +kernel)
set_option maxRecDepth 20000 in
theorem gX5_keep_X5_isNoFigure : GoodIn wsX5_keep (va_wsS RX5 199 yX5_isNoFigure wsX5_isNoFigure) := goodIn_app (goodIn_of _ (by decide +kernel)) ggX5_keep_X5_isNoFigure
set_option maxRecDepth 20000 in
theorem ggX5_keep_X4_holdDish : GoodIn wsX5_keep wsX4_holdDish := goodIn_r _ [24, 14, 25, 26, 35, 36, 37, 38, 39, 40] (by decide +kernel) (by decide +kernel)
set_option maxRecDepth 20000 in
theorem gX5_keep_X4_holdDish : GoodIn wsX5_keep (wsV RX5 279 RX4 yX4_holdDish wsX4_holdDish) := goodIn_app (goodIn_of _ (by decide +kernel)) ggX5_keep_X4_holdDish
set_option maxRecDepth 20000 in
theorem ggX5_row_X5_isNoShelf : GoodIn wsX5_row wsX5_isNoShelf := goodIn_r _ [5] (by decide +kernel) (by decide +kernel)
set_option maxRecDepth 20000 in
theorem gX5_row_X5_isNoShelf : GoodIn wsX5_row (va_wsS RX5 183 yX5_isNoShelf wsX5_isNoShelf) := goodIn_app (goodIn_of _ (by decide +kernel)) ggX5_row_X5_isNoShelf
set_option maxRecDepth 20000 in
theorem ggX5_row_X4_holdRow : GoodIn wsX5_row wsX4_holdRow := goodIn_r _ [10, 11, 12, 13, 14, 23, 24, 25, 26, 27, 28] (by decide +kernel) (by decide +kernel)
set_option maxRecDepth 20000 in
theorem gX5_row_X4_holdRow : GoodIn wsX5_row (wsV RX5 282 RX4 yX4_holdRow wsX4_holdRow) := goodIn_app (goodIn_of _ (by decide +kernel)) ggX5_row_X4_holdRow
set_option maxRecDepth 20000 in
theorem ggX5_put_X5_rowRefusal : GoodIn wsX5_put wsX5_rowRefusal := goodIn_r _ [7, 1, 8, 9, 6, 10, 11, 12, 13, 14, 15, 16, 17, 18, 19, 20, 31, 32, 33, 34, 35, 36, 37, 38, 39, 40, 41, 42, 43, 44] (by decide +kernel) (by decide +kernel)
set_option maxRecDepth 20000 in
theorem gX5_put_X5_rowRefusal : GoodIn wsX5_put (wsV RX5 257 RX5 yX5_rowRefusal wsX5_rowRefusal) := goodIn_app (goodIn_of _ (by decide +kernel)) ggX5_put_X5_rowRefusal
set_option maxRecDepth 20000 in
theorem ggX5_put_X4_hasElement : GoodIn wsX5_put wsX4_hasElement := goodIn_r _ [24, 25, 39, 40, 41, 42, 43, 44] (by decide +kernel) (by decide +kernel)
set_option maxRecDepth 20000 in
theorem gX5_put_X4_hasElement : GoodIn wsX5_put (wsV RX5 285 RX4 yX4_hasElement wsX4_hasElement) := goodIn_app (goodIn_of _ (by decide +kernel)) ggX5_put_X4_hasElement
set_option maxRecDepth 20000 in
theorem ggX5_put_X4_lowestBits : GoodIn wsX5_put wsX4_lowestBits := goodIn_r _ [29, 30, 39, 40, 41, 42, 43, 44] (by decide +kernel) (by decide +kernel)
set_option maxRecDepth 20000 in
theorem gX5_put_X4_lowestBits : GoodIn wsX5_put (wsV RX5 288 RX4 yX4_lowestBits wsX4_lowestBits) := goodIn_app (goodIn_of _ (by decide +kernel)) ggX5_put_X4_lowestBits
set_option maxRecDepth 20000 in
theorem ggX5_element_X5_isNoShelf : GoodIn wsX5_element wsX5_isNoShelf := goodIn_r _ [10] (by decide +kernel) (by decide +kernel)
set_option maxRecDepth 20000 in
theorem gX5_element_X5_isNoShelf : GoodIn wsX5_element (va_wsS RX5 183 yX5_isNoShelf wsX5_isNoShelf) := goodIn_app (goodIn_of _ (by decide +kernel)) ggX5_element_X5_isNoShelf
set_option maxRecDepth 20000 in
theorem ggX5_element_X4_holdsRow : GoodIn wsX5_element wsX4_holdsRow := goodIn_r _ [15, 16, 30, 31, 32, 33, 34, 35] (by decide +kernel) (by decide +kernel)
set_option maxRecDepth 20000 in
theorem gX5_element_X4_holdsRow : GoodIn wsX5_element (wsV RX5 294 RX4 yX4_holdsRow wsX4_holdsRow) := goodIn_app (goodIn_of _ (by decide +kernel)) ggX5_element_X4_holdsRow
set_option maxRecDepth 20000 in
theorem ggX5_element_X4_hasElement : GoodIn wsX5_element wsX4_hasElement := goodIn_r _ [20, 21, 30, 31, 32, 33, 34, 35] (by decide +kernel) (by decide +kernel)
set_option maxRecDepth 20000 in
theorem gX5_element_X4_hasElement : GoodIn wsX5_element (wsV RX5 285 RX4 yX4_hasElement wsX4_hasElement) := goodIn_app (goodIn_of _ (by decide +kernel)) ggX5_element_X4_hasElement
set_option maxRecDepth 20000 in
theorem ggX5_copy_X5_isNoShelf : GoodIn wsX5_copy wsX5_isNoShelf := goodIn_r _ [11] (by decide +kernel) (by decide +kernel)
set_option maxRecDepth 20000 in
theorem gX5_copy_X5_isNoShelf : GoodIn wsX5_copy (va_wsS RX5 183 yX5_isNoShelf wsX5_isNoShelf) := goodIn_app (goodIn_of _ (by decide +kernel)) ggX5_copy_X5_isNoShelf
set_option maxRecDepth 20000 in
theorem ggX5_copy_X4_holdsNothing : GoodIn wsX5_copy wsX4_holdsNothing := goodIn_r _ [16, 17, 35, 36, 37, 38, 39, 40] (by decide +kernel) (by decide +kernel)
set_option maxRecDepth 20000 in
theorem gX5_copy_X4_holdsNothing : GoodIn wsX5_copy (wsV RX5 300 RX4 yX4_holdsNothing wsX4_holdsNothing) := goodIn_app (goodIn_of _ (by decide +kernel)) ggX5_copy_X4_holdsNothing
set_option maxRecDepth 20000 in
theorem ggX5_copy_X4_holdsRow : GoodIn wsX5_copy wsX4_holdsRow := goodIn_r _ [21, 17, 35, 36, 37, 38, 39, 40] (by decide +kernel) (by decide +kernel)
set_option maxRecDepth 20000 in
theorem gX5_copy_X4_holdsRow : GoodIn wsX5_copy (wsV RX5 294 RX4 yX4_holdsRow wsX4_holdsRow) := goodIn_app (goodIn_of _ (by decide +kernel)) ggX5_copy_X4_holdsRow
set_option maxRecDepth 20000 in
theorem ggX5_copy_X4_hasElements : GoodIn wsX5_copy wsX4_hasElements := goodIn_r _ [25, 26, 35, 36, 37, 38, 39, 40] (by decide +kernel) (by decide +kernel)
set_option maxRecDepth 20000 in
theorem gX5_copy_X4_hasElements : GoodIn wsX5_copy (wsV RX5 306 RX4 yX4_hasElements wsX4_hasElements) := goodIn_app (goodIn_of _ (by decide +kernel)) ggX5_copy_X4_hasElements
set_option maxRecDepth 20000 in
theorem ggX5_price_X5_dishRefusal : GoodIn wsX5_price wsX5_dishRefusal := goodIn_r _ [8, 1, 9, 10, 7, 11, 12, 13, 14, 15, 16, 17, 18, 19, 20, 21, 25, 26, 27, 28, 29, 30, 31, 32, 33, 34, 35, 36, 37, 38] (by decide +kernel) (by decide +kernel)
set_option maxRecDepth 20000 in
theorem gX5_price_X5_dishRefusal : GoodIn wsX5_price (wsV RX5 83 RX5 yX5_dishRefusal wsX5_dishRefusal) := goodIn_app (goodIn_of _ (by decide +kernel)) ggX5_price_X5_dishRefusal
set_option maxRecDepth 20000 in
theorem ggX5_price_X5_priceOf : GoodIn wsX5_price wsX5_priceOf := goodIn_r _ [24] (by decide +kernel) (by decide +kernel)
set_option maxRecDepth 20000 in
theorem gX5_price_X5_priceOf : GoodIn wsX5_price (va_wsS RX5 315 yX5_priceOf wsX5_priceOf) := goodIn_app (goodIn_of _ (by decide +kernel)) ggX5_price_X5_priceOf
set_option maxRecDepth 20000 in
theorem ggX5_toss_X5_dishRefusal : GoodIn wsX5_toss wsX5_dishRefusal := goodIn_r _ [8, 1, 9, 10, 7, 11, 12, 13, 14, 15, 16, 17, 18, 19, 20, 21, 25, 26, 27, 28, 29, 30, 31, 32, 33, 34, 35, 36, 37, 38] (by decide +kernel) (by decide +kernel)
set_option maxRecDepth 20000 in
theorem gX5_toss_X5_dishRefusal : GoodIn wsX5_toss (wsV RX5 83 RX5 yX5_dishRefusal wsX5_dishRefusal) := goodIn_app (goodIn_of _ (by decide +kernel)) ggX5_toss_X5_dishRefusal
set_option maxRecDepth 20000 in
theorem ggX5_toss_X5_priceOf : GoodIn wsX5_toss wsX5_priceOf := goodIn_r _ [24] (by decide +kernel) (by decide +kernel)
set_option maxRecDepth 20000 in
theorem gX5_toss_X5_priceOf : GoodIn wsX5_toss (va_wsS RX5 315 yX5_priceOf wsX5_priceOf) := goodIn_app (goodIn_of _ (by decide +kernel)) ggX5_toss_X5_priceOf
set_option maxRecDepth 20000 in
theorem ggX5_dishRefusal_X5_isNoShelf : GoodIn wsX5_dishRefusal wsX5_isNoShelf := goodIn_r _ [5] (by decide +kernel) (by decide +kernel)
set_option maxRecDepth 20000 in
theorem gX5_dishRefusal_X5_isNoShelf : GoodIn wsX5_dishRefusal (va_wsS RX5 183 yX5_isNoShelf wsX5_isNoShelf) := goodIn_app (goodIn_of _ (by decide +kernel)) ggX5_dishRefusal_X5_isNoShelf
set_option maxRecDepth 20000 in
theorem ggX5_dishRefusal_X4_holdsNothing : GoodIn wsX5_dishRefusal wsX4_holdsNothing := goodIn_r _ [10, 11, 24, 25, 26, 27, 28, 29] (by decide +kernel) (by decide +kernel)
set_option maxRecDepth 20000 in
theorem gX5_dishRefusal_X4_holdsNothing : GoodIn wsX5_dishRefusal (wsV RX5 300 RX4 yX4_holdsNothing wsX4_holdsNothing) := goodIn_app (goodIn_of _ (by decide +kernel)) ggX5_dishRefusal_X4_holdsNothing
set_option maxRecDepth 20000 in
theorem ggX5_dishRefusal_X4_holdsRow : GoodIn wsX5_dishRefusal wsX4_holdsRow := goodIn_r _ [15, 11, 24, 25, 26, 27, 28, 29] (by decide +kernel) (by decide +kernel)
set_option maxRecDepth 20000 in
theorem gX5_dishRefusal_X4_holdsRow : GoodIn wsX5_dishRefusal (wsV RX5 294 RX4 yX4_holdsRow wsX4_holdsRow) := goodIn_app (goodIn_of _ (by decide +kernel)) ggX5_dishRefusal_X4_holdsRow
set_option maxRecDepth 20000 in
theorem ggX5_rowRefusal_X5_isNoShelf : GoodIn wsX5_rowRefusal wsX5_isNoShelf := goodIn_r _ [5] (by decide +kernel) (by decide +kernel)
set_option maxRecDepth 20000 in
theorem gX5_rowRefusal_X5_isNoShelf : GoodIn wsX5_rowRefusal (va_wsS RX5 183 yX5_isNoShelf wsX5_isNoShelf) := goodIn_app (goodIn_of _ (by decide +kernel)) ggX5_rowRefusal_X5_isNoShelf
set_option maxRecDepth 20000 in
theorem ggX5_rowRefusal_X4_holdsNothing : GoodIn wsX5_rowRefusal wsX4_holdsNothing := goodIn_r _ [10, 11, 24, 25, 26, 27, 28, 29] (by decide +kernel) (by decide +kernel)
set_option maxRecDepth 20000 in
theorem gX5_rowRefusal_X4_holdsNothing : GoodIn wsX5_rowRefusal (wsV RX5 300 RX4 yX4_holdsNothing wsX4_holdsNothing) := goodIn_app (goodIn_of _ (by decide +kernel)) ggX5_rowRefusal_X4_holdsNothing
set_option maxRecDepth 20000 in
theorem ggX5_rowRefusal_X4_holdsRow : GoodIn wsX5_rowRefusal wsX4_holdsRow := goodIn_r _ [15, 11, 24, 25, 26, 27, 28, 29] (by decide +kernel) (by decide +kernel)
set_option maxRecDepth 20000 in
theorem gX5_rowRefusal_X4_holdsRow : GoodIn wsX5_rowRefusal (wsV RX5 294 RX4 yX4_holdsRow wsX4_holdsRow) := goodIn_app (goodIn_of _ (by decide +kernel)) ggX5_rowRefusal_X4_holdsRow
set_option maxRecDepth 20000 in
theorem ggX5_bytesRefusal_X5_rowRefusal : GoodIn wsX5_bytesRefusal wsX5_rowRefusal := goodIn_r _ [7, 1, 8, 9, 6, 10, 11, 12, 13, 14, 15, 16, 17, 18, 19, 20, 21, 22, 23, 24, 25, 26, 27, 28, 29, 30, 31, 32, 33, 34] (by decide +kernel) (by decide +kernel)
set_option maxRecDepth 20000 in
theorem gX5_bytesRefusal_X5_rowRefusal : GoodIn wsX5_bytesRefusal (wsV RX5 257 RX5 yX5_rowRefusal wsX5_rowRefusal) := goodIn_app (goodIn_of _ (by decide +kernel)) ggX5_bytesRefusal_X5_rowRefusal
set_option maxRecDepth 20000 in
theorem ggX5_isPlan_X4_elementOr : GoodIn wsX5_isPlan wsX4_elementOr := goodIn_r _ [7, 8, 9, 10, 11, 6, 12, 13, 30, 31, 32, 33, 34, 35] (by decide +kernel) (by decide +kernel)
set_option maxRecDepth 20000 in
theorem gX5_isPlan_X4_elementOr : GoodIn wsX5_isPlan (wsV RX5 67 RX4 yX4_elementOr wsX4_elementOr) := goodIn_app (goodIn_of _ (by decide +kernel)) ggX5_isPlan_X4_elementOr
set_option maxRecDepth 20000 in
theorem ggX5_isPlan_X1_has : GoodIn wsX5_isPlan wsX1_has := goodIn_r _ [18, 19, 44, 45] (by decide +kernel) (by decide +kernel)
set_option maxRecDepth 20000 in
theorem gX5_isPlan_X1_has : GoodIn wsX5_isPlan (wsV RX5 79 RX1 yX1_has wsX1_has) := goodIn_app (goodIn_of _ (by decide +kernel)) ggX5_isPlan_X1_has
set_option maxRecDepth 20000 in
theorem ggX5_isPlan_X4_hasDishAt : GoodIn wsX5_isPlan wsX4_hasDishAt := goodIn_r _ [23, 24, 4, 5, 6, 7, 8, 9, 10, 11, 12, 13, 25, 26, 27, 28, 29, 30, 31, 32, 33, 34, 35] (by decide +kernel) (by decide +kernel)
set_option maxRecDepth 20000 in
theorem gX5_isPlan_X4_hasDishAt : GoodIn wsX5_isPlan (wsV RX5 318 RX4 yX4_hasDishAt wsX4_hasDishAt) := goodIn_app (goodIn_of _ (by decide +kernel)) ggX5_isPlan_X4_hasDishAt
set_option maxRecDepth 20000 in
theorem ggX5_isRowOfDishes_X4_hasDishAt : GoodIn wsX5_isRowOfDishes wsX4_hasDishAt := goodIn_r _ [6, 7, 8, 9, 5, 10, 11, 12, 13, 14, 15, 16, 17, 18, 19, 20, 21, 22, 23, 24, 25, 26, 27] (by decide +kernel) (by decide +kernel)
set_option maxRecDepth 20000 in
theorem gX5_isRowOfDishes_X4_hasDishAt : GoodIn wsX5_isRowOfDishes (wsV RX5 318 RX4 yX4_hasDishAt wsX4_hasDishAt) := goodIn_app (goodIn_of _ (by decide +kernel)) ggX5_isRowOfDishes_X4_hasDishAt
set_option maxRecDepth 20000 in
theorem ggX5_firstKind_X5_kindIn : GoodIn wsX5_firstKind wsX5_kindIn := goodIn_r _ [4] (by decide +kernel) (by decide +kernel)
set_option maxRecDepth 20000 in
theorem gX5_firstKind_X5_kindIn : GoodIn wsX5_firstKind (va_wsS RX5 321 yX5_kindIn wsX5_kindIn) := goodIn_app (goodIn_of _ (by decide +kernel)) ggX5_firstKind_X5_kindIn
set_option maxRecDepth 20000 in
theorem ggX5_digitsOf_X5_kindIn : GoodIn wsX5_digitsOf wsX5_kindIn := goodIn_r _ [4] (by decide +kernel) (by decide +kernel)
set_option maxRecDepth 20000 in
theorem gX5_digitsOf_X5_kindIn : GoodIn wsX5_digitsOf (va_wsS RX5 321 yX5_kindIn wsX5_kindIn) := goodIn_app (goodIn_of _ (by decide +kernel)) ggX5_digitsOf_X5_kindIn
set_option maxRecDepth 20000 in
theorem ggX6_isPot_X6_in : GoodIn wsX6_isPot wsX6_in := goodIn_r _ [5] (by decide +kernel) (by decide +kernel)
set_option maxRecDepth 20000 in
theorem gX6_isPot_X6_in : GoodIn wsX6_isPot (va_wsS RX6 84 yX6_in wsX6_in) := goodIn_app (goodIn_of _ (by decide +kernel)) ggX6_isPot_X6_in
set_option maxRecDepth 20000 in
theorem ggX6_becomes_X6_nine : GoodIn wsX6_becomes wsX6_nine := goodIn_r _ [8, 9] (by decide +kernel) (by decide +kernel)
set_option maxRecDepth 20000 in
theorem gX6_becomes_X6_nine : GoodIn wsX6_becomes (va_wsS RX6 90 yX6_nine wsX6_nine) := goodIn_app (goodIn_of _ (by decide +kernel)) ggX6_becomes_X6_nine
set_option maxRecDepth 20000 in
theorem ggX6_becomes_X6_ownOf : GoodIn wsX6_becomes wsX6_ownOf := goodIn_r _ [12] (by decide +kernel) (by decide +kernel)
set_option maxRecDepth 20000 in
theorem gX6_becomes_X6_ownOf : GoodIn wsX6_becomes (va_wsS RX6 94 yX6_ownOf wsX6_ownOf) := goodIn_app (goodIn_of _ (by decide +kernel)) ggX6_becomes_X6_ownOf
set_option maxRecDepth 20000 in
theorem ggX6_becomes_X6_keepsOf : GoodIn wsX6_becomes wsX6_keepsOf := goodIn_r _ [15] (by decide +kernel) (by decide +kernel)
set_option maxRecDepth 20000 in
theorem gX6_becomes_X6_keepsOf : GoodIn wsX6_becomes (va_wsS RX6 98 yX6_keepsOf wsX6_keepsOf) := goodIn_app (goodIn_of _ (by decide +kernel)) ggX6_becomes_X6_keepsOf
set_option maxRecDepth 20000 in
theorem ggX6_cooks_X6_becomes : GoodIn wsX6_cooks wsX6_becomes := goodIn_r _ [6, 1, 7, 8, 9, 10, 11, 5, 12, 13, 14, 15, 16, 17, 18, 19, 20, 21, 22, 23, 24, 25, 26, 27, 28, 29, 30, 31, 32, 33, 34, 35, 36, 37, 38, 39, 40, 41, 42, 43, 44, 45, 46, 47, 48, 49, 50, 51, 52] (by decide +kernel) (by decide +kernel)
set_option maxRecDepth 20000 in
theorem gX6_cooks_X6_becomes : GoodIn wsX6_cooks (wsV RX6 102 RX6 yX6_becomes wsX6_becomes) := goodIn_app (goodIn_of _ (by decide +kernel)) ggX6_cooks_X6_becomes
set_option maxRecDepth 20000 in
theorem ggX6_portionOf_X6_allOf : GoodIn wsX6_portionOf wsX6_allOf := goodIn_r _ [7, 2, 8, 9, 10, 11, 12, 13, 14, 15, 16, 17, 18, 19, 20, 21, 22, 23, 24, 25, 26, 27, 28, 29, 30, 31, 32, 33, 34, 35, 36, 37, 38, 39, 40] (by decide +kernel) (by decide +kernel)
set_option maxRecDepth 20000 in
theorem gX6_portionOf_X6_allOf : GoodIn wsX6_portionOf (wsV RX6 106 RX6 yX6_allOf wsX6_allOf) := goodIn_app (goodIn_of _ (by decide +kernel)) ggX6_portionOf_X6_allOf
set_option maxRecDepth 20000 in
theorem ggX6_isOver_X6_allOf : GoodIn wsX6_isOver wsX6_allOf := goodIn_r _ [7, 2, 8, 9, 10, 11, 12, 13, 14, 15, 16, 17, 18, 19, 20, 21, 22, 23, 24, 25, 26, 27, 28, 29, 30, 31, 32, 33, 34, 35, 36, 37, 38, 39, 40] (by decide +kernel) (by decide +kernel)
set_option maxRecDepth 20000 in
theorem gX6_isOver_X6_allOf : GoodIn wsX6_isOver (wsV RX6 106 RX6 yX6_allOf wsX6_allOf) := goodIn_app (goodIn_of _ (by decide +kernel)) ggX6_isOver_X6_allOf
set_option maxRecDepth 20000 in
theorem ggX6_doesHarm_X6_isOver : GoodIn wsX6_doesHarm wsX6_isOver := goodIn_r _ [5, 6, 7, 8, 9, 10, 4, 11, 12, 13, 14, 15, 16, 17, 18, 19, 20, 21, 22, 23, 24, 25, 26, 27, 28, 29, 30, 31, 32, 33, 34, 35, 36, 37, 38, 39, 40, 41, 42, 43, 44] (by decide +kernel) (by decide +kernel)
set_option maxRecDepth 20000 in
theorem gX6_doesHarm_X6_isOver : GoodIn wsX6_doesHarm (wsV RX6 111 RX6 yX6_isOver wsX6_isOver) := goodIn_app (goodIn_of _ (by decide +kernel)) ggX6_doesHarm_X6_isOver
set_option maxRecDepth 20000 in
theorem ggX6_open_X6_copyLongs : GoodIn wsX6_open wsX6_copyLongs := goodIn_r _ [14] (by decide +kernel) (by decide +kernel)
set_option maxRecDepth 20000 in
theorem gX6_open_X6_copyLongs : GoodIn wsX6_open (va_wsS RX6 118 yX6_copyLongs wsX6_copyLongs) := goodIn_app (goodIn_of _ (by decide +kernel)) ggX6_open_X6_copyLongs
set_option maxRecDepth 20000 in
theorem ggX6_open_X6_copyInts : GoodIn wsX6_open wsX6_copyInts := goodIn_r _ [17] (by decide +kernel) (by decide +kernel)
set_option maxRecDepth 20000 in
theorem gX6_open_X6_copyInts : GoodIn wsX6_open (va_wsS RX6 122 yX6_copyInts wsX6_copyInts) := goodIn_app (goodIn_of _ (by decide +kernel)) ggX6_open_X6_copyInts
set_option maxRecDepth 20000 in
theorem ggX6_close_X6_copyLongs : GoodIn wsX6_close wsX6_copyLongs := goodIn_r _ [14] (by decide +kernel) (by decide +kernel)
set_option maxRecDepth 20000 in
theorem gX6_close_X6_copyLongs : GoodIn wsX6_close (va_wsS RX6 118 yX6_copyLongs wsX6_copyLongs) := goodIn_app (goodIn_of _ (by decide +kernel)) ggX6_close_X6_copyLongs
set_option maxRecDepth 20000 in
theorem ggX6_close_X6_copyInts : GoodIn wsX6_close wsX6_copyInts := goodIn_r _ [17] (by decide +kernel) (by decide +kernel)
set_option maxRecDepth 20000 in
theorem gX6_close_X6_copyInts : GoodIn wsX6_close (va_wsS RX6 122 yX6_copyInts wsX6_copyInts) := goodIn_app (goodIn_of _ (by decide +kernel)) ggX6_close_X6_copyInts
set_option maxRecDepth 20000 in
theorem ggX6_image_X6_copyLongs : GoodIn wsX6_image wsX6_copyLongs := goodIn_r _ [16] (by decide +kernel) (by decide +kernel)
set_option maxRecDepth 20000 in
theorem gX6_image_X6_copyLongs : GoodIn wsX6_image (va_wsS RX6 118 yX6_copyLongs wsX6_copyLongs) := goodIn_app (goodIn_of _ (by decide +kernel)) ggX6_image_X6_copyLongs
set_option maxRecDepth 20000 in
theorem ggX6_image_X6_copyInts : GoodIn wsX6_image wsX6_copyInts := goodIn_r _ [19] (by decide +kernel) (by decide +kernel)
set_option maxRecDepth 20000 in
theorem gX6_image_X6_copyInts : GoodIn wsX6_image (va_wsS RX6 122 yX6_copyInts wsX6_copyInts) := goodIn_app (goodIn_of _ (by decide +kernel)) ggX6_image_X6_copyInts
set_option maxRecDepth 20000 in
theorem ggX6_restore_X6_copyLongs : GoodIn wsX6_restore wsX6_copyLongs := goodIn_r _ [16] (by decide +kernel) (by decide +kernel)
set_option maxRecDepth 20000 in
theorem gX6_restore_X6_copyLongs : GoodIn wsX6_restore (va_wsS RX6 118 yX6_copyLongs wsX6_copyLongs) := goodIn_app (goodIn_of _ (by decide +kernel)) ggX6_restore_X6_copyLongs
set_option maxRecDepth 20000 in
theorem ggX6_restore_X6_copyInts : GoodIn wsX6_restore wsX6_copyInts := goodIn_r _ [19] (by decide +kernel) (by decide +kernel)
set_option maxRecDepth 20000 in
theorem gX6_restore_X6_copyInts : GoodIn wsX6_restore (va_wsS RX6 122 yX6_copyInts wsX6_copyInts) := goodIn_app (goodIn_of _ (by decide +kernel)) ggX6_restore_X6_copyInts
set_option maxRecDepth 20000 in
theorem ggX6_readDigit_X6_here : GoodIn wsX6_readDigit wsX6_here := goodIn_r _ [11, 4, 12, 5, 6, 16, 17, 18, 19, 20, 21, 22, 23, 24, 25, 26, 27, 28, 29, 30, 31, 32, 33, 34, 35, 36, 37, 38, 39, 40, 41, 42, 43, 44, 45, 46, 47, 48] (by decide +kernel) (by decide +kernel)
set_option maxRecDepth 20000 in
theorem gX6_readDigit_X6_here : GoodIn wsX6_readDigit (wsV RX6 145 RX6 yX6_here wsX6_here) := goodIn_app (goodIn_of _ (by decide +kernel)) ggX6_readDigit_X6_here
set_option maxRecDepth 20000 in
theorem ggX6_readDigit_X6_in : GoodIn wsX6_readDigit wsX6_in := goodIn_r _ [15] (by decide +kernel) (by decide +kernel)
set_option maxRecDepth 20000 in
theorem gX6_readDigit_X6_in : GoodIn wsX6_readDigit (va_wsS RX6 84 yX6_in wsX6_in) := goodIn_app (goodIn_of _ (by decide +kernel)) ggX6_readDigit_X6_in
set_option maxRecDepth 20000 in
theorem ggX6_readStatement_X6_here : GoodIn wsX6_readStatement wsX6_here := goodIn_r _ [11, 3, 12, 13, 14, 24, 25, 26, 27, 28, 29, 30, 31, 32, 33, 34, 35, 36, 37, 38, 39, 40, 41, 42, 43, 44, 45, 46, 47, 48, 49, 50, 51, 52, 53, 54, 55, 56] (by decide +kernel) (by decide +kernel)
set_option maxRecDepth 20000 in
theorem gX6_readStatement_X6_here : GoodIn wsX6_readStatement (wsV RX6 145 RX6 yX6_here wsX6_here) := goodIn_app (goodIn_of _ (by decide +kernel)) ggX6_readStatement_X6_here
set_option maxRecDepth 20000 in
theorem ggX6_readStatement_X6_readDigit : GoodIn wsX6_readStatement wsX6_readDigit := goodIn_r _ [18, 5, 19, 20, 3, 13, 14, 7, 8, 9, 10, 11, 12, 21, 22, 23, 24, 25, 26, 27, 28, 29, 30, 31, 32, 33, 34, 35, 36, 37, 38, 39, 40, 41, 42, 43, 44, 45, 46, 47, 48, 49, 50, 51, 52, 53, 54, 55, 56] (by decide +kernel) (by decide +kernel)
set_option maxRecDepth 20000 in
theorem gX6_readStatement_X6_readDigit : GoodIn wsX6_readStatement (wsV RX6 156 RX6 yX6_readDigit wsX6_readDigit) := goodIn_app (goodIn_of _ (by decide +kernel)) ggX6_readStatement_X6_readDigit
set_option maxRecDepth 20000 in
theorem ggX6_comes_X6_empty : GoodIn wsX6_comes wsX6_empty := goodIn_r _ [8, 9, 10, 42, 43, 44, 45, 46, 47, 48, 49, 50, 51, 52, 53, 54, 55, 56, 57, 58, 59, 60, 61, 62, 63, 64, 65, 66, 67, 68, 69, 70, 71, 72, 73, 74] (by decide +kernel) (by decide +kernel)
set_option maxRecDepth 20000 in
theorem gX6_comes_X6_empty : GoodIn wsX6_comes (wsV RX6 159 RX6 yX6_empty wsX6_empty) := goodIn_app (goodIn_of _ (by decide +kernel)) ggX6_comes_X6_empty
set_option maxRecDepth 20000 in
theorem ggX6_comes_X6_isPot : GoodIn wsX6_comes wsX6_isPot := goodIn_r _ [14, 3, 15, 16, 7, 17, 42, 43, 44, 45, 46, 47, 48, 49, 50, 51, 52, 53, 54, 55, 56, 57, 58, 59, 60, 61, 62, 63, 64, 65, 66, 67, 68, 69, 70, 71, 72, 73, 74] (by decide +kernel) (by decide +kernel)
set_option maxRecDepth 20000 in
theorem gX6_comes_X6_isPot : GoodIn wsX6_comes (wsV RX6 163 RX6 yX6_isPot wsX6_isPot) := goodIn_app (goodIn_of _ (by decide +kernel)) ggX6_comes_X6_isPot
set_option maxRecDepth 20000 in
theorem ggX6_comes_X6_cooks : GoodIn wsX6_comes wsX6_cooks := goodIn_r _ [21, 9, 22, 23, 24, 7, 25, 10, 26, 27, 28, 29, 30, 31, 32, 33, 34, 35, 36, 37, 42, 43, 44, 45, 46, 47, 48, 49, 50, 51, 52, 53, 54, 55, 56, 57, 58, 59, 60, 61, 62, 63, 64, 65, 66, 67, 68, 69, 70, 71, 72, 73, 74] (by decide +kernel) (by decide +kernel)
set_option maxRecDepth 20000 in
theorem gX6_comes_X6_cooks : GoodIn wsX6_comes (wsV RX6 167 RX6 yX6_cooks wsX6_cooks) := goodIn_app (goodIn_of _ (by decide +kernel)) ggX6_comes_X6_cooks
set_option maxRecDepth 20000 in
theorem ggX6_comes_X6_same : GoodIn wsX6_comes wsX6_same := goodIn_r _ [41, 9, 10, 26, 27, 42, 43, 44, 45, 46, 47, 48, 49, 50, 51, 52, 53, 54, 55, 56, 57, 58, 59, 60, 61, 62, 63, 64, 65, 66, 67, 68, 69, 70, 71, 72, 73, 74] (by decide +kernel) (by decide +kernel)
set_option maxRecDepth 20000 in
theorem gX6_comes_X6_same : GoodIn wsX6_comes (wsV RX6 170 RX6 yX6_same wsX6_same) := goodIn_app (goodIn_of _ (by decide +kernel)) ggX6_comes_X6_same
set_option maxRecDepth 20000 in
theorem ggX6_kitchen_X6_wrongSort : GoodIn wsX6_kitchen wsX6_wrongSort := goodIn_r _ [13, 14, 15, 16, 17, 12, 18, 19, 20, 21, 22, 23, 99, 100, 101, 102, 103, 104, 105, 106, 107, 108, 109, 110, 111, 112, 113, 114, 115, 116, 117, 118, 119, 120, 121, 122, 123, 124, 125, 126, 127, 128, 129, 130, 131] (by decide +kernel) (by decide +kernel)
set_option maxRecDepth 20000 in
theorem gX6_kitchen_X6_wrongSort : GoodIn wsX6_kitchen (wsV RX6 174 RX6 yX6_wrongSort wsX6_wrongSort) := goodIn_app (goodIn_of _ (by decide +kernel)) ggX6_kitchen_X6_wrongSort
set_option maxRecDepth 20000 in
theorem ggX6_kitchen_X6_readStatement : GoodIn wsX6_kitchen wsX6_readStatement := goodIn_r _ [27, 7, 8, 5, 28, 6, 29, 30, 31, 32, 12, 33, 4, 34, 2, 35, 36, 37, 38, 39, 40, 21, 22, 23, 99, 100, 101, 102, 103, 104, 105, 106, 107, 108, 109, 110, 111, 112, 113, 114, 115, 116, 117, 118, 119, 120, 121, 122, 123, 124, 125, 126, 127, 128, 129, 130, 131] (by decide +kernel) (by decide +kernel)
set_option maxRecDepth 20000 in
theorem gX6_kitchen_X6_readStatement : GoodIn wsX6_kitchen (wsV RX6 178 RX6 yX6_readStatement wsX6_readStatement) := goodIn_app (goodIn_of _ (by decide +kernel)) ggX6_kitchen_X6_readStatement
set_option maxRecDepth 20000 in
theorem ggX6_kitchen_X6_open : GoodIn wsX6_kitchen wsX6_open := goodIn_r _ [44, 45, 46, 47, 48, 49, 50, 51, 52, 53, 54, 55, 56, 12, 57, 58, 59, 60, 99, 100, 101, 102, 103, 104, 105, 106, 107, 108, 109, 110, 111, 112, 113, 114, 115, 116, 117, 118, 119, 120, 121, 122, 123, 124, 125, 126, 127, 128, 129, 130, 131] (by decide +kernel) (by decide +kernel)
set_option maxRecDepth 20000 in
theorem gX6_kitchen_X6_open : GoodIn wsX6_kitchen (wsV RX6 181 RX6 yX6_open wsX6_open) := goodIn_app (goodIn_of _ (by decide +kernel)) ggX6_kitchen_X6_open
set_option maxRecDepth 20000 in
theorem ggX6_kitchen_X6_comes : GoodIn wsX6_kitchen wsX6_comes := goodIn_r _ [64, 29, 28, 45, 65, 66, 67, 12, 68, 49, 47, 69, 70, 71, 72, 21, 22, 23, 73, 74, 75, 76, 77, 78, 79, 80, 51, 53, 81, 82, 83, 84, 85, 86, 87, 88, 89, 90, 91, 92, 93, 94, 99, 100, 101, 102, 103, 104, 105, 106, 107, 108, 109, 110, 111, 112, 113, 114, 115, 116, 117, 118, 119, 120, 121, 122, 123, 124, 125, 126, 127, 128, 129, 130, 131] (by decide +kernel) (by decide +kernel)
set_option maxRecDepth 20000 in
theorem gX6_kitchen_X6_comes : GoodIn wsX6_kitchen (wsV RX6 184 RX6 yX6_comes wsX6_comes) := goodIn_app (goodIn_of _ (by decide +kernel)) ggX6_kitchen_X6_comes
set_option maxRecDepth 20000 in
theorem ggX6_kitchen_X6_close : GoodIn wsX6_kitchen wsX6_close := goodIn_r _ [98, 46, 45, 48, 47, 50, 49, 52, 51, 54, 53, 55, 56, 12, 57, 58, 59, 60, 99, 100, 101, 102, 103, 104, 105, 106, 107, 108, 109, 110, 111, 112, 113, 114, 115, 116, 117, 118, 119, 120, 121, 122, 123, 124, 125, 126, 127, 128, 129, 130, 131] (by decide +kernel) (by decide +kernel)
set_option maxRecDepth 20000 in
theorem gX6_kitchen_X6_close : GoodIn wsX6_kitchen (wsV RX6 187 RX6 yX6_close wsX6_close) := goodIn_app (goodIn_of _ (by decide +kernel)) ggX6_kitchen_X6_close
set_option maxRecDepth 20000 in
theorem ggX6_pot_X6_empty : GoodIn wsX6_pot wsX6_empty := goodIn_r _ [7, 8, 9, 10, 11, 12, 13, 14, 15, 16, 17, 18, 19, 20, 21, 22, 23, 24, 25, 26, 27, 28, 29, 30, 31, 32, 33, 34, 35, 36, 37, 38, 39, 40, 41, 42] (by decide +kernel) (by decide +kernel)
set_option maxRecDepth 20000 in
theorem gX6_pot_X6_empty : GoodIn wsX6_pot (wsV RX6 159 RX6 yX6_empty wsX6_empty) := goodIn_app (goodIn_of _ (by decide +kernel)) ggX6_pot_X6_empty
set_option maxRecDepth 20000 in
theorem ggX6_wrongDish_X6_in : GoodIn wsX6_wrongDish wsX6_in := goodIn_r _ [6] (by decide +kernel) (by decide +kernel)
set_option maxRecDepth 20000 in
theorem gX6_wrongDish_X6_in : GoodIn wsX6_wrongDish (va_wsS RX6 84 yX6_in wsX6_in) := goodIn_app (goodIn_of _ (by decide +kernel)) ggX6_wrongDish_X6_in
set_option maxRecDepth 20000 in
theorem ggX6_cook_X6_isPot : GoodIn wsX6_cook wsX6_isPot := goodIn_r _ [9, 10, 11, 12, 8, 13, 41, 42, 43, 44, 45, 46, 47, 48, 49, 50, 51, 52, 53, 54, 55, 56, 57, 58, 59, 60, 61, 62, 63, 64, 65, 66, 67, 68, 69, 70, 71, 72, 73] (by decide +kernel) (by decide +kernel)
set_option maxRecDepth 20000 in
theorem gX6_cook_X6_isPot : GoodIn wsX6_cook (wsV RX6 163 RX6 yX6_isPot wsX6_isPot) := goodIn_app (goodIn_of _ (by decide +kernel)) ggX6_cook_X6_isPot
set_option maxRecDepth 20000 in
theorem ggX6_cook_X6_wrongDish : GoodIn wsX6_cook wsX6_wrongDish := goodIn_r _ [17, 18, 19, 11, 12, 8, 13, 41, 42, 43, 44, 45, 46, 47, 48, 49, 50, 51, 52, 53, 54, 55, 56, 57, 58, 59, 60, 61, 62, 63, 64, 65, 66, 67, 68, 69, 70, 71, 72, 73] (by decide +kernel) (by decide +kernel)
set_option maxRecDepth 20000 in
theorem gX6_cook_X6_wrongDish : GoodIn wsX6_cook (wsV RX6 192 RX6 yX6_wrongDish wsX6_wrongDish) := goodIn_app (goodIn_of _ (by decide +kernel)) ggX6_cook_X6_wrongDish
set_option maxRecDepth 20000 in
theorem ggX6_cook_X6_cooks : GoodIn wsX6_cook wsX6_cooks := goodIn_r _ [23, 4, 24, 25, 26, 8, 27, 28, 29, 30, 31, 32, 33, 34, 35, 36, 37, 38, 39, 40, 41, 42, 43, 44, 45, 46, 47, 48, 49, 50, 51, 52, 53, 54, 55, 56, 57, 58, 59, 60, 61, 62, 63, 64, 65, 66, 67, 68, 69, 70, 71, 72, 73] (by decide +kernel) (by decide +kernel)
set_option maxRecDepth 20000 in
theorem gX6_cook_X6_cooks : GoodIn wsX6_cook (wsV RX6 167 RX6 yX6_cooks wsX6_cooks) := goodIn_app (goodIn_of _ (by decide +kernel)) ggX6_cook_X6_cooks
set_option maxRecDepth 20000 in
theorem ggX6_dish_X6_isPot : GoodIn wsX6_dish wsX6_isPot := goodIn_r _ [9, 10, 11, 12, 8, 13, 14, 15, 16, 17, 18, 19, 20, 21, 22, 23, 24, 25, 26, 27, 28, 29, 30, 31, 32, 33, 34, 35, 36, 37, 38, 39, 40, 41, 42, 43, 44, 45, 46] (by decide +kernel) (by decide +kernel)
set_option maxRecDepth 20000 in
theorem gX6_dish_X6_isPot : GoodIn wsX6_dish (wsV RX6 163 RX6 yX6_isPot wsX6_isPot) := goodIn_app (goodIn_of _ (by decide +kernel)) ggX6_dish_X6_isPot
set_option maxRecDepth 20000 in
theorem ggX6_dish_X6_in : GoodIn wsX6_dish wsX6_in := goodIn_r _ [13] (by decide +kernel) (by decide +kernel)
set_option maxRecDepth 20000 in
theorem gX6_dish_X6_in : GoodIn wsX6_dish (va_wsS RX6 84 yX6_in wsX6_in) := goodIn_app (goodIn_of _ (by decide +kernel)) ggX6_dish_X6_in
set_option maxRecDepth 20000 in
theorem ggX6_dishes_X6_isPot : GoodIn wsX6_dishes wsX6_isPot := goodIn_r _ [7, 8, 9, 10, 6, 11, 12, 13, 14, 15, 16, 17, 18, 19, 20, 21, 22, 23, 24, 25, 26, 27, 28, 29, 30, 31, 32, 33, 34, 35, 36, 37, 38, 39, 40, 41, 42, 43, 44] (by decide +kernel) (by decide +kernel)
set_option maxRecDepth 20000 in
theorem gX6_dishes_X6_isPot : GoodIn wsX6_dishes (wsV RX6 163 RX6 yX6_isPot wsX6_isPot) := goodIn_app (goodIn_of _ (by decide +kernel)) ggX6_dishes_X6_isPot
set_option maxRecDepth 20000 in
theorem ggX6_taste_X6_isPot : GoodIn wsX6_taste wsX6_isPot := goodIn_r _ [10, 11, 12, 13, 9, 14, 22, 23, 24, 25, 26, 27, 28, 29, 30, 31, 32, 33, 34, 35, 36, 37, 38, 39, 40, 41, 42, 43, 44, 45, 46, 47, 48, 49, 50, 51, 52, 53, 54] (by decide +kernel) (by decide +kernel)
set_option maxRecDepth 20000 in
theorem gX6_taste_X6_isPot : GoodIn wsX6_taste (wsV RX6 163 RX6 yX6_isPot wsX6_isPot) := goodIn_app (goodIn_of _ (by decide +kernel)) ggX6_taste_X6_isPot
set_option maxRecDepth 20000 in
theorem ggX6_taste_X6_in : GoodIn wsX6_taste wsX6_in := goodIn_r _ [14] (by decide +kernel) (by decide +kernel)
set_option maxRecDepth 20000 in
theorem gX6_taste_X6_in : GoodIn wsX6_taste (va_wsS RX6 84 yX6_in wsX6_in) := goodIn_app (goodIn_of _ (by decide +kernel)) ggX6_taste_X6_in
set_option maxRecDepth 20000 in
theorem ggX6_taste_X6_nine : GoodIn wsX6_taste wsX6_nine := goodIn_r _ [17, 18] (by decide +kernel) (by decide +kernel)
set_option maxRecDepth 20000 in
theorem gX6_taste_X6_nine : GoodIn wsX6_taste (va_wsS RX6 90 yX6_nine wsX6_nine) := goodIn_app (goodIn_of _ (by decide +kernel)) ggX6_taste_X6_nine
set_option maxRecDepth 20000 in
theorem ggX6_taste_X6_least : GoodIn wsX6_taste wsX6_least := goodIn_r _ [21] (by decide +kernel) (by decide +kernel)
set_option maxRecDepth 20000 in
theorem gX6_taste_X6_least : GoodIn wsX6_taste (va_wsS RX6 199 yX6_least wsX6_least) := goodIn_app (goodIn_of _ (by decide +kernel)) ggX6_taste_X6_least
set_option maxRecDepth 20000 in
theorem ggX6_all_X6_isPot : GoodIn wsX6_all wsX6_isPot := goodIn_r _ [8, 9, 10, 11, 7, 12, 25, 26, 27, 28, 29, 30, 31, 32, 33, 34, 35, 36, 37, 38, 39, 40, 41, 42, 43, 44, 45, 46, 47, 48, 49, 50, 51, 52, 53, 54, 55, 56, 57] (by decide +kernel) (by decide +kernel)
set_option maxRecDepth 20000 in
theorem gX6_all_X6_isPot : GoodIn wsX6_all (wsV RX6 163 RX6 yX6_isPot wsX6_isPot) := goodIn_app (goodIn_of _ (by decide +kernel)) ggX6_all_X6_isPot
set_option maxRecDepth 20000 in
theorem ggX6_all_X6_in : GoodIn wsX6_all wsX6_in := goodIn_r _ [12] (by decide +kernel) (by decide +kernel)
set_option maxRecDepth 20000 in
theorem gX6_all_X6_in : GoodIn wsX6_all (va_wsS RX6 84 yX6_in wsX6_in) := goodIn_app (goodIn_of _ (by decide +kernel)) ggX6_all_X6_in
set_option maxRecDepth 20000 in
theorem ggX6_all_X6_allOf : GoodIn wsX6_all wsX6_allOf := goodIn_r _ [16, 17, 25, 26, 27, 28, 29, 30, 31, 32, 33, 34, 35, 36, 37, 38, 39, 40, 41, 42, 43, 44, 45, 46, 47, 48, 49, 50, 51, 52, 53, 54, 55, 56, 57] (by decide +kernel) (by decide +kernel)
set_option maxRecDepth 20000 in
theorem gX6_all_X6_allOf : GoodIn wsX6_all (wsV RX6 106 RX6 yX6_allOf wsX6_allOf) := goodIn_app (goodIn_of _ (by decide +kernel)) ggX6_all_X6_allOf
set_option maxRecDepth 20000 in
theorem ggX6_all_X6_nine : GoodIn wsX6_all wsX6_nine := goodIn_r _ [20, 21] (by decide +kernel) (by decide +kernel)
set_option maxRecDepth 20000 in
theorem gX6_all_X6_nine : GoodIn wsX6_all (va_wsS RX6 90 yX6_nine wsX6_nine) := goodIn_app (goodIn_of _ (by decide +kernel)) ggX6_all_X6_nine
set_option maxRecDepth 20000 in
theorem ggX6_all_X6_least : GoodIn wsX6_all wsX6_least := goodIn_r _ [24] (by decide +kernel) (by decide +kernel)
set_option maxRecDepth 20000 in
theorem gX6_all_X6_least : GoodIn wsX6_all (va_wsS RX6 199 yX6_least wsX6_least) := goodIn_app (goodIn_of _ (by decide +kernel)) ggX6_all_X6_least
set_option maxRecDepth 20000 in
theorem ggX6_portion_X6_isPot : GoodIn wsX6_portion wsX6_isPot := goodIn_r _ [7, 8, 9, 10, 6, 11, 22, 23, 24, 25, 26, 27, 28, 29, 30, 31, 32, 33, 34, 35, 36, 37, 38, 39, 40, 41, 42, 43, 44, 45, 46, 47, 48, 49, 50, 51, 52, 53, 54] (by decide +kernel) (by decide +kernel)
set_option maxRecDepth 20000 in
theorem gX6_portion_X6_isPot : GoodIn wsX6_portion (wsV RX6 163 RX6 yX6_isPot wsX6_isPot) := goodIn_app (goodIn_of _ (by decide +kernel)) ggX6_portion_X6_isPot
set_option maxRecDepth 20000 in
theorem ggX6_portion_X6_in : GoodIn wsX6_portion wsX6_in := goodIn_r _ [11] (by decide +kernel) (by decide +kernel)
set_option maxRecDepth 20000 in
theorem gX6_portion_X6_in : GoodIn wsX6_portion (va_wsS RX6 84 yX6_in wsX6_in) := goodIn_app (goodIn_of _ (by decide +kernel)) ggX6_portion_X6_in
set_option maxRecDepth 20000 in
theorem ggX6_portion_X6_portionOf : GoodIn wsX6_portion wsX6_portionOf := goodIn_r _ [15, 16, 17, 18, 19, 20, 6, 21, 22, 23, 24, 25, 26, 27, 28, 29, 30, 31, 32, 33, 34, 35, 36, 37, 38, 39, 40, 41, 42, 43, 44, 45, 46, 47, 48, 49, 50, 51, 52, 53, 54] (by decide +kernel) (by decide +kernel)
set_option maxRecDepth 20000 in
theorem gX6_portion_X6_portionOf : GoodIn wsX6_portion (wsV RX6 203 RX6 yX6_portionOf wsX6_portionOf) := goodIn_app (goodIn_of _ (by decide +kernel)) ggX6_portion_X6_portionOf
set_option maxRecDepth 20000 in
theorem ggX6_over_X6_isPot : GoodIn wsX6_over wsX6_isPot := goodIn_r _ [8, 9, 10, 11, 7, 12, 22, 23, 24, 25, 26, 27, 28, 29, 30, 31, 32, 33, 34, 35, 36, 37, 38, 39, 40, 41, 42, 43, 44, 45, 46, 47, 48, 49, 50, 51, 52, 53, 54] (by decide +kernel) (by decide +kernel)
set_option maxRecDepth 20000 in
theorem gX6_over_X6_isPot : GoodIn wsX6_over (wsV RX6 163 RX6 yX6_isPot wsX6_isPot) := goodIn_app (goodIn_of _ (by decide +kernel)) ggX6_over_X6_isPot
set_option maxRecDepth 20000 in
theorem ggX6_over_X6_in : GoodIn wsX6_over wsX6_in := goodIn_r _ [12] (by decide +kernel) (by decide +kernel)
set_option maxRecDepth 20000 in
theorem gX6_over_X6_in : GoodIn wsX6_over (va_wsS RX6 84 yX6_in wsX6_in) := goodIn_app (goodIn_of _ (by decide +kernel)) ggX6_over_X6_in
set_option maxRecDepth 20000 in
theorem ggX6_over_X6_isOver : GoodIn wsX6_over wsX6_isOver := goodIn_r _ [16, 3, 17, 18, 19, 20, 7, 21, 22, 23, 24, 25, 26, 27, 28, 29, 30, 31, 32, 33, 34, 35, 36, 37, 38, 39, 40, 41, 42, 43, 44, 45, 46, 47, 48, 49, 50, 51, 52, 53, 54] (by decide +kernel) (by decide +kernel)
set_option maxRecDepth 20000 in
theorem gX6_over_X6_isOver : GoodIn wsX6_over (wsV RX6 111 RX6 yX6_isOver wsX6_isOver) := goodIn_app (goodIn_of _ (by decide +kernel)) ggX6_over_X6_isOver
set_option maxRecDepth 20000 in
theorem ggX6_partOf_X6_keepsOf : GoodIn wsX6_partOf wsX6_keepsOf := goodIn_r _ [6] (by decide +kernel) (by decide +kernel)
set_option maxRecDepth 20000 in
theorem gX6_partOf_X6_keepsOf : GoodIn wsX6_partOf (va_wsS RX6 98 yX6_keepsOf wsX6_keepsOf) := goodIn_app (goodIn_of _ (by decide +kernel)) ggX6_partOf_X6_keepsOf
set_option maxRecDepth 20000 in
theorem ggX6_part_X6_isPot : GoodIn wsX6_part wsX6_isPot := goodIn_r _ [8, 9, 10, 11, 7, 12, 28, 29, 30, 31, 32, 33, 34, 35, 36, 37, 38, 39, 40, 41, 42, 43, 44, 45, 46, 47, 48, 49, 50, 51, 52, 53, 54, 55, 56, 57, 58, 59, 60] (by decide +kernel) (by decide +kernel)
set_option maxRecDepth 20000 in
theorem gX6_part_X6_isPot : GoodIn wsX6_part (wsV RX6 163 RX6 yX6_isPot wsX6_isPot) := goodIn_app (goodIn_of _ (by decide +kernel)) ggX6_part_X6_isPot
set_option maxRecDepth 20000 in
theorem ggX6_part_X6_in : GoodIn wsX6_part wsX6_in := goodIn_r _ [12] (by decide +kernel) (by decide +kernel)
set_option maxRecDepth 20000 in
theorem gX6_part_X6_in : GoodIn wsX6_part (va_wsS RX6 84 yX6_in wsX6_in) := goodIn_app (goodIn_of _ (by decide +kernel)) ggX6_part_X6_in
set_option maxRecDepth 20000 in
theorem ggX6_part_X6_partOf : GoodIn wsX6_part wsX6_partOf := goodIn_r _ [16, 17, 2, 18, 19, 7, 20, 28, 29, 30, 31, 32, 33, 34, 35, 36, 37, 38, 39, 40, 41, 42, 43, 44, 45, 46, 47, 48, 49, 50, 51, 52, 53, 54, 55, 56, 57, 58, 59, 60] (by decide +kernel) (by decide +kernel)
set_option maxRecDepth 20000 in
theorem gX6_part_X6_partOf : GoodIn wsX6_part (wsV RX6 206 RX6 yX6_partOf wsX6_partOf) := goodIn_app (goodIn_of _ (by decide +kernel)) ggX6_part_X6_partOf
set_option maxRecDepth 20000 in
theorem ggX6_part_X6_nine : GoodIn wsX6_part wsX6_nine := goodIn_r _ [23, 24] (by decide +kernel) (by decide +kernel)
set_option maxRecDepth 20000 in
theorem gX6_part_X6_nine : GoodIn wsX6_part (va_wsS RX6 90 yX6_nine wsX6_nine) := goodIn_app (goodIn_of _ (by decide +kernel)) ggX6_part_X6_nine
set_option maxRecDepth 20000 in
theorem ggX6_part_X6_least : GoodIn wsX6_part wsX6_least := goodIn_r _ [27] (by decide +kernel) (by decide +kernel)
set_option maxRecDepth 20000 in
theorem gX6_part_X6_least : GoodIn wsX6_part (va_wsS RX6 199 yX6_least wsX6_least) := goodIn_app (goodIn_of _ (by decide +kernel)) ggX6_part_X6_least
set_option maxRecDepth 20000 in
theorem ggX6_back_X6_isPot : GoodIn wsX6_back wsX6_isPot := goodIn_r _ [8, 9, 10, 11, 7, 12, 25, 26, 27, 28, 29, 30, 31, 32, 33, 34, 35, 36, 37, 38, 39, 40, 41, 42, 43, 44, 45, 46, 47, 48, 49, 50, 51, 52, 53, 54, 55, 56, 57] (by decide +kernel) (by decide +kernel)
set_option maxRecDepth 20000 in
theorem gX6_back_X6_isPot : GoodIn wsX6_back (wsV RX6 163 RX6 yX6_isPot wsX6_isPot) := goodIn_app (goodIn_of _ (by decide +kernel)) ggX6_back_X6_isPot
set_option maxRecDepth 20000 in
theorem ggX6_back_X6_in : GoodIn wsX6_back wsX6_in := goodIn_r _ [12] (by decide +kernel) (by decide +kernel)
set_option maxRecDepth 20000 in
theorem gX6_back_X6_in : GoodIn wsX6_back (va_wsS RX6 84 yX6_in wsX6_in) := goodIn_app (goodIn_of _ (by decide +kernel)) ggX6_back_X6_in
set_option maxRecDepth 20000 in
theorem ggX6_back_X6_partOf : GoodIn wsX6_back wsX6_partOf := goodIn_r _ [16, 17, 3, 18, 19, 7, 20, 25, 26, 27, 28, 29, 30, 31, 32, 33, 34, 35, 36, 37, 38, 39, 40, 41, 42, 43, 44, 45, 46, 47, 48, 49, 50, 51, 52, 53, 54, 55, 56, 57] (by decide +kernel) (by decide +kernel)
set_option maxRecDepth 20000 in
theorem gX6_back_X6_partOf : GoodIn wsX6_back (wsV RX6 206 RX6 yX6_partOf wsX6_partOf) := goodIn_app (goodIn_of _ (by decide +kernel)) ggX6_back_X6_partOf
set_option maxRecDepth 20000 in
theorem ggX6_back_X6_nine : GoodIn wsX6_back wsX6_nine := goodIn_r _ [23, 24] (by decide +kernel) (by decide +kernel)
set_option maxRecDepth 20000 in
theorem gX6_back_X6_nine : GoodIn wsX6_back (va_wsS RX6 90 yX6_nine wsX6_nine) := goodIn_app (goodIn_of _ (by decide +kernel)) ggX6_back_X6_nine
set_option maxRecDepth 20000 in
theorem ggX6_strongest_X6_isPot : GoodIn wsX6_strongest wsX6_isPot := goodIn_r _ [7, 8, 9, 10, 6, 11, 16, 17, 18, 19, 20, 21, 22, 23, 24, 25, 26, 27, 28, 29, 30, 31, 32, 33, 34, 35, 36, 37, 38, 39, 40, 41, 42, 43, 44, 45, 46, 47, 48] (by decide +kernel) (by decide +kernel)
set_option maxRecDepth 20000 in
theorem gX6_strongest_X6_isPot : GoodIn wsX6_strongest (wsV RX6 163 RX6 yX6_isPot wsX6_isPot) := goodIn_app (goodIn_of _ (by decide +kernel)) ggX6_strongest_X6_isPot
set_option maxRecDepth 20000 in
theorem ggX6_strongest_X6_allOf : GoodIn wsX6_strongest wsX6_allOf := goodIn_r _ [15, 2, 16, 17, 18, 19, 20, 21, 22, 23, 24, 25, 26, 27, 28, 29, 30, 31, 32, 33, 34, 35, 36, 37, 38, 39, 40, 41, 42, 43, 44, 45, 46, 47, 48] (by decide +kernel) (by decide +kernel)
set_option maxRecDepth 20000 in
theorem gX6_strongest_X6_allOf : GoodIn wsX6_strongest (wsV RX6 106 RX6 yX6_allOf wsX6_allOf) := goodIn_app (goodIn_of _ (by decide +kernel)) ggX6_strongest_X6_allOf
set_option maxRecDepth 20000 in
theorem ggX6_isLine_X6_in : GoodIn wsX6_isLine wsX6_in := goodIn_r _ [6] (by decide +kernel) (by decide +kernel)
set_option maxRecDepth 20000 in
theorem gX6_isLine_X6_in : GoodIn wsX6_isLine (va_wsS RX6 84 yX6_in wsX6_in) := goodIn_app (goodIn_of _ (by decide +kernel)) ggX6_isLine_X6_in
set_option maxRecDepth 20000 in
theorem ggX6_harms_X6_isPot : GoodIn wsX6_harms wsX6_isPot := goodIn_r _ [6, 7, 8, 9, 5, 10, 29, 30, 31, 32, 33, 34, 35, 36, 37, 38, 39, 40, 41, 42, 43, 44, 45, 46, 47, 48, 49, 50, 51, 52, 53, 54, 55, 56, 57, 58, 59, 60, 61] (by decide +kernel) (by decide +kernel)
set_option maxRecDepth 20000 in
theorem gX6_harms_X6_isPot : GoodIn wsX6_harms (wsV RX6 163 RX6 yX6_isPot wsX6_isPot) := goodIn_app (goodIn_of _ (by decide +kernel)) ggX6_harms_X6_isPot
set_option maxRecDepth 20000 in
theorem ggX6_harms_X6_isLine : GoodIn wsX6_harms wsX6_isLine := goodIn_r _ [13, 14, 15, 8, 9, 5, 10] (by decide +kernel) (by decide +kernel)
set_option maxRecDepth 20000 in
theorem gX6_harms_X6_isLine : GoodIn wsX6_harms (va_wsS RX6 212 yX6_isLine wsX6_isLine) := goodIn_app (goodIn_of _ (by decide +kernel)) ggX6_harms_X6_isLine
set_option maxRecDepth 20000 in
theorem ggX6_harms_X6_doesHarm : GoodIn wsX6_harms wsX6_doesHarm := goodIn_r _ [19, 20, 21, 22, 5, 23, 15, 24, 25, 26, 27, 28, 29, 30, 31, 32, 33, 34, 35, 36, 37, 38, 39, 40, 41, 42, 43, 44, 45, 46, 47, 48, 49, 50, 51, 52, 53, 54, 55, 56, 57, 58, 59, 60, 61] (by decide +kernel) (by decide +kernel)
set_option maxRecDepth 20000 in
theorem gX6_harms_X6_doesHarm : GoodIn wsX6_harms (wsV RX6 216 RX6 yX6_doesHarm wsX6_doesHarm) := goodIn_app (goodIn_of _ (by decide +kernel)) ggX6_harms_X6_doesHarm
set_option maxRecDepth 20000 in
theorem ggX6_wrongDishes_X6_wrongSort : GoodIn wsX6_wrongDishes wsX6_wrongSort := goodIn_r _ [10, 11, 12, 13, 14, 9, 15, 4, 16, 17, 18, 19, 20, 21, 22, 23, 24, 25, 26, 27, 28, 29, 30, 31, 32, 33, 34, 35, 36, 37, 38, 39, 40, 41, 42, 43, 44, 45, 46, 47, 48, 49, 50, 51, 52] (by decide +kernel) (by decide +kernel)
set_option maxRecDepth 20000 in
theorem gX6_wrongDishes_X6_wrongSort : GoodIn wsX6_wrongDishes (wsV RX6 174 RX6 yX6_wrongSort wsX6_wrongSort) := goodIn_app (goodIn_of _ (by decide +kernel)) ggX6_wrongDishes_X6_wrongSort
set_option maxRecDepth 20000 in
theorem ggX6_wrongDishes_X6_in : GoodIn wsX6_wrongDishes wsX6_in := goodIn_r _ [19] (by decide +kernel) (by decide +kernel)
set_option maxRecDepth 20000 in
theorem gX6_wrongDishes_X6_in : GoodIn wsX6_wrongDishes (va_wsS RX6 84 yX6_in wsX6_in) := goodIn_app (goodIn_of _ (by decide +kernel)) ggX6_wrongDishes_X6_in
set_option maxRecDepth 20000 in
theorem ggX6_first_X6_isLine : GoodIn wsX6_first wsX6_isLine := goodIn_r _ [6, 7, 8, 9, 10, 5, 11] (by decide +kernel) (by decide +kernel)
set_option maxRecDepth 20000 in
theorem gX6_first_X6_isLine : GoodIn wsX6_first (va_wsS RX6 212 yX6_isLine wsX6_isLine) := goodIn_app (goodIn_of _ (by decide +kernel)) ggX6_first_X6_isLine
set_option maxRecDepth 20000 in
theorem ggX6_first_X6_wrongDishes : GoodIn wsX6_first wsX6_wrongDishes := goodIn_r _ [15, 2, 16, 17, 18, 19, 20, 21, 22, 5, 23, 24, 25, 26, 27, 28, 29, 9, 10, 11, 86, 87, 88, 89, 90, 91, 92, 93, 94, 95, 96, 97, 98, 99, 100, 101, 102, 103, 104, 105, 106, 107, 108, 109, 110, 111, 112, 113, 114, 115, 116, 117, 118] (by decide +kernel) (by decide +kernel)
set_option maxRecDepth 20000 in
theorem gX6_first_X6_wrongDishes : GoodIn wsX6_first (wsV RX6 219 RX6 yX6_wrongDishes wsX6_wrongDishes) := goodIn_app (goodIn_of _ (by decide +kernel)) ggX6_first_X6_wrongDishes
set_option maxRecDepth 20000 in
theorem ggX6_first_X6_open : GoodIn wsX6_first wsX6_open := goodIn_r _ [33, 19, 34, 35, 36, 37, 38, 39, 40, 41, 42, 43, 44, 5, 45, 46, 47, 48, 86, 87, 88, 89, 90, 91, 92, 93, 94, 95, 96, 97, 98, 99, 100, 101, 102, 103, 104, 105, 106, 107, 108, 109, 110, 111, 112, 113, 114, 115, 116, 117, 118] (by decide +kernel) (by decide +kernel)
set_option maxRecDepth 20000 in
theorem gX6_first_X6_open : GoodIn wsX6_first (wsV RX6 181 RX6 yX6_open wsX6_open) := goodIn_app (goodIn_of _ (by decide +kernel)) ggX6_first_X6_open
set_option maxRecDepth 20000 in
theorem ggX6_first_X6_element0 : GoodIn wsX6_first wsX6_element0 := goodIn_r _ [52, 16, 86, 87, 88, 89, 90, 91, 92, 93, 94, 95, 96, 97, 98, 99, 100, 101, 102, 103, 104, 105, 106, 107, 108, 109, 110, 111, 112, 113, 114, 115, 116, 117, 118] (by decide +kernel) (by decide +kernel)
set_option maxRecDepth 20000 in
theorem gX6_first_X6_element0 : GoodIn wsX6_first (wsV RX6 222 RX6 yX6_element0 wsX6_element0) := goodIn_app (goodIn_of _ (by decide +kernel)) ggX6_first_X6_element0
set_option maxRecDepth 20000 in
theorem ggX6_first_X6_cooks : GoodIn wsX6_first wsX6_cooks := goodIn_r _ [56, 37, 57, 58, 59, 5, 60, 35, 39, 41, 61, 62, 63, 17, 64, 65, 66, 67, 68, 69, 86, 87, 88, 89, 90, 91, 92, 93, 94, 95, 96, 97, 98, 99, 100, 101, 102, 103, 104, 105, 106, 107, 108, 109, 110, 111, 112, 113, 114, 115, 116, 117, 118] (by decide +kernel) (by decide +kernel)
set_option maxRecDepth 20000 in
theorem gX6_first_X6_cooks : GoodIn wsX6_first (wsV RX6 167 RX6 yX6_cooks wsX6_cooks) := goodIn_app (goodIn_of _ (by decide +kernel)) ggX6_first_X6_cooks
set_option maxRecDepth 20000 in
theorem ggX6_first_X6_doesHarm : GoodIn wsX6_first wsX6_doesHarm := goodIn_r _ [73, 74, 75, 76, 5, 77, 8, 35, 78, 79, 80, 81, 86, 87, 88, 89, 90, 91, 92, 93, 94, 95, 96, 97, 98, 99, 100, 101, 102, 103, 104, 105, 106, 107, 108, 109, 110, 111, 112, 113, 114, 115, 116, 117, 118] (by decide +kernel) (by decide +kernel)
set_option maxRecDepth 20000 in
theorem gX6_first_X6_doesHarm : GoodIn wsX6_first (wsV RX6 216 RX6 yX6_doesHarm wsX6_doesHarm) := goodIn_app (goodIn_of _ (by decide +kernel)) ggX6_first_X6_doesHarm
set_option maxRecDepth 20000 in
theorem ggX6_first_X6_close : GoodIn wsX6_first wsX6_close := goodIn_r _ [85, 34, 19, 36, 35, 38, 37, 40, 39, 42, 41, 43, 44, 5, 45, 46, 47, 48, 86, 87, 88, 89, 90, 91, 92, 93, 94, 95, 96, 97, 98, 99, 100, 101, 102, 103, 104, 105, 106, 107, 108, 109, 110, 111, 112, 113, 114, 115, 116, 117, 118] (by decide +kernel) (by decide +kernel)
set_option maxRecDepth 20000 in
theorem gX6_first_X6_close : GoodIn wsX6_first (wsV RX6 187 RX6 yX6_close wsX6_close) := goodIn_app (goodIn_of _ (by decide +kernel)) ggX6_first_X6_close
set_option maxRecDepth 20000 in
theorem ggX6_week_X6_in : GoodIn wsX6_week wsX6_in := goodIn_r _ [8] (by decide +kernel) (by decide +kernel)
set_option maxRecDepth 20000 in
theorem gX6_week_X6_in : GoodIn wsX6_week (va_wsS RX6 84 yX6_in wsX6_in) := goodIn_app (goodIn_of _ (by decide +kernel)) ggX6_week_X6_in
set_option maxRecDepth 20000 in
theorem ggX6_week_X6_isLine : GoodIn wsX6_week wsX6_isLine := goodIn_r _ [11, 12, 13, 5, 6, 7, 8] (by decide +kernel) (by decide +kernel)
set_option maxRecDepth 20000 in
theorem gX6_week_X6_isLine : GoodIn wsX6_week (va_wsS RX6 212 yX6_isLine wsX6_isLine) := goodIn_app (goodIn_of _ (by decide +kernel)) ggX6_week_X6_isLine
set_option maxRecDepth 20000 in
theorem ggX6_week_X6_wrongDishes : GoodIn wsX6_week wsX6_wrongDishes := goodIn_r _ [17, 4, 18, 19, 2, 3, 20, 21, 22, 7, 23, 24, 25, 26, 27, 28, 29, 5, 6, 8, 89, 90, 91, 92, 93, 94, 95, 96, 97, 98, 99, 100, 101, 102, 103, 104, 105, 106, 107, 108, 109, 110, 111, 112, 113, 114, 115, 116, 117, 118, 119, 120, 121] (by decide +kernel) (by decide +kernel)
set_option maxRecDepth 20000 in
theorem gX6_week_X6_wrongDishes : GoodIn wsX6_week (wsV RX6 219 RX6 yX6_wrongDishes wsX6_wrongDishes) := goodIn_app (goodIn_of _ (by decide +kernel)) ggX6_week_X6_wrongDishes
set_option maxRecDepth 20000 in
theorem ggX6_week_X6_power : GoodIn wsX6_week wsX6_power := goodIn_r _ [32] (by decide +kernel) (by decide +kernel)
set_option maxRecDepth 20000 in
theorem gX6_week_X6_power : GoodIn wsX6_week (va_wsS RX6 225 yX6_power wsX6_power) := goodIn_app (goodIn_of _ (by decide +kernel)) ggX6_week_X6_power
set_option maxRecDepth 20000 in
theorem ggX6_week_X6_open : GoodIn wsX6_week wsX6_open := goodIn_r _ [36, 3, 37, 38, 39, 40, 41, 42, 43, 44, 45, 46, 47, 7, 48, 49, 50, 51, 89, 90, 91, 92, 93, 94, 95, 96, 97, 98, 99, 100, 101, 102, 103, 104, 105, 106, 107, 108, 109, 110, 111, 112, 113, 114, 115, 116, 117, 118, 119, 120, 121] (by decide +kernel) (by decide +kernel)
set_option maxRecDepth 20000 in
theorem gX6_week_X6_open : GoodIn wsX6_week (wsV RX6 181 RX6 yX6_open wsX6_open) := goodIn_app (goodIn_of _ (by decide +kernel)) ggX6_week_X6_open
set_option maxRecDepth 20000 in
theorem ggX6_week_X6_element0 : GoodIn wsX6_week wsX6_element0 := goodIn_r _ [55, 18, 89, 90, 91, 92, 93, 94, 95, 96, 97, 98, 99, 100, 101, 102, 103, 104, 105, 106, 107, 108, 109, 110, 111, 112, 113, 114, 115, 116, 117, 118, 119, 120, 121] (by decide +kernel) (by decide +kernel)
set_option maxRecDepth 20000 in
theorem gX6_week_X6_element0 : GoodIn wsX6_week (wsV RX6 222 RX6 yX6_element0 wsX6_element0) := goodIn_app (goodIn_of _ (by decide +kernel)) ggX6_week_X6_element0
set_option maxRecDepth 20000 in
theorem ggX6_week_X6_cooks : GoodIn wsX6_week wsX6_cooks := goodIn_r _ [59, 40, 60, 61, 62, 7, 63, 38, 42, 44, 64, 65, 66, 19, 67, 68, 69, 70, 71, 72, 89, 90, 91, 92, 93, 94, 95, 96, 97, 98, 99, 100, 101, 102, 103, 104, 105, 106, 107, 108, 109, 110, 111, 112, 113, 114, 115, 116, 117, 118, 119, 120, 121] (by decide +kernel) (by decide +kernel)
set_option maxRecDepth 20000 in
theorem gX6_week_X6_cooks : GoodIn wsX6_week (wsV RX6 167 RX6 yX6_cooks wsX6_cooks) := goodIn_app (goodIn_of _ (by decide +kernel)) ggX6_week_X6_cooks
set_option maxRecDepth 20000 in
theorem ggX6_week_X6_doesHarm : GoodIn wsX6_week wsX6_doesHarm := goodIn_r _ [76, 77, 78, 79, 7, 80, 13, 38, 81, 82, 83, 84, 89, 90, 91, 92, 93, 94, 95, 96, 97, 98, 99, 100, 101, 102, 103, 104, 105, 106, 107, 108, 109, 110, 111, 112, 113, 114, 115, 116, 117, 118, 119, 120, 121] (by decide +kernel) (by decide +kernel)
set_option maxRecDepth 20000 in
theorem gX6_week_X6_doesHarm : GoodIn wsX6_week (wsV RX6 216 RX6 yX6_doesHarm wsX6_doesHarm) := goodIn_app (goodIn_of _ (by decide +kernel)) ggX6_week_X6_doesHarm
set_option maxRecDepth 20000 in
theorem ggX6_week_X6_close : GoodIn wsX6_week wsX6_close := goodIn_r _ [88, 37, 3, 39, 38, 41, 40, 43, 42, 45, 44, 46, 47, 7, 48, 49, 50, 51, 89, 90, 91, 92, 93, 94, 95, 96, 97, 98, 99, 100, 101, 102, 103, 104, 105, 106, 107, 108, 109, 110, 111, 112, 113, 114, 115, 116, 117, 118, 119, 120, 121] (by decide +kernel) (by decide +kernel)
set_option maxRecDepth 20000 in
theorem gX6_week_X6_close : GoodIn wsX6_week (wsV RX6 187 RX6 yX6_close wsX6_close) := goodIn_app (goodIn_of _ (by decide +kernel)) ggX6_week_X6_close
set_option maxRecDepth 20000 in
theorem ggX6_cooksCode_X6_power : GoodIn wsX6_cooksCode wsX6_power := goodIn_r _ [4] (by decide +kernel) (by decide +kernel)
set_option maxRecDepth 20000 in
theorem gX6_cooksCode_X6_power : GoodIn wsX6_cooksCode (va_wsS RX6 225 yX6_power wsX6_power) := goodIn_app (goodIn_of _ (by decide +kernel)) ggX6_cooksCode_X6_power
set_option maxRecDepth 20000 in
theorem ggX6_cooksCode_X6_cooks : GoodIn wsX6_cooksCode wsX6_cooks := goodIn_r _ [8, 9, 10, 11, 12, 3, 13, 14, 15, 16, 17, 18, 19, 20, 21, 22, 23, 24, 25, 26, 27, 28, 29, 30, 31, 32, 33, 34, 35, 36, 37, 38, 39, 40, 41, 42, 43, 44, 45, 46, 47, 48, 49, 50, 51, 52, 53, 54, 55, 56, 57, 58, 59] (by decide +kernel) (by decide +kernel)
set_option maxRecDepth 20000 in
theorem gX6_cooksCode_X6_cooks : GoodIn wsX6_cooksCode (wsV RX6 167 RX6 yX6_cooks wsX6_cooks) := goodIn_app (goodIn_of _ (by decide +kernel)) ggX6_cooksCode_X6_cooks
set_option maxRecDepth 20000 in
theorem ggX6_bring_X6_isPot : GoodIn wsX6_bring wsX6_isPot := goodIn_r _ [9, 10, 11, 12, 8, 13, 54, 55, 56, 57, 58, 59, 60, 61, 62, 63, 64, 65, 66, 67, 68, 69, 70, 71, 72, 73, 74, 75, 76, 77, 78, 79, 80, 81, 82, 83, 84, 85, 86] (by decide +kernel) (by decide +kernel)
set_option maxRecDepth 20000 in
theorem gX6_bring_X6_isPot : GoodIn wsX6_bring (wsV RX6 163 RX6 yX6_isPot wsX6_isPot) := goodIn_app (goodIn_of _ (by decide +kernel)) ggX6_bring_X6_isPot
set_option maxRecDepth 20000 in
theorem ggX6_bring_X6_in : GoodIn wsX6_bring wsX6_in := goodIn_r _ [13] (by decide +kernel) (by decide +kernel)
set_option maxRecDepth 20000 in
theorem gX6_bring_X6_in : GoodIn wsX6_bring (va_wsS RX6 84 yX6_in wsX6_in) := goodIn_app (goodIn_of _ (by decide +kernel)) ggX6_bring_X6_in
set_option maxRecDepth 20000 in
theorem ggX6_bring_X6_power : GoodIn wsX6_bring wsX6_power := goodIn_r _ [16] (by decide +kernel) (by decide +kernel)
set_option maxRecDepth 20000 in
theorem gX6_bring_X6_power : GoodIn wsX6_bring (va_wsS RX6 225 yX6_power wsX6_power) := goodIn_app (goodIn_of _ (by decide +kernel)) ggX6_bring_X6_power
set_option maxRecDepth 20000 in
theorem ggX6_bring_X6_same : GoodIn wsX6_bring wsX6_same := goodIn_r _ [20, 21, 22, 23, 24, 54, 55, 56, 57, 58, 59, 60, 61, 62, 63, 64, 65, 66, 67, 68, 69, 70, 71, 72, 73, 74, 75, 76, 77, 78, 79, 80, 81, 82, 83, 84, 85, 86] (by decide +kernel) (by decide +kernel)
set_option maxRecDepth 20000 in
theorem gX6_bring_X6_same : GoodIn wsX6_bring (wsV RX6 170 RX6 yX6_same wsX6_same) := goodIn_app (goodIn_of _ (by decide +kernel)) ggX6_bring_X6_same
set_option maxRecDepth 20000 in
theorem ggX6_bring_X6_cooksCode : GoodIn wsX6_bring wsX6_cooksCode := goodIn_r _ [28, 14, 15, 8, 16, 29, 30, 31, 32, 21, 33, 34, 35, 36, 22, 23, 24, 37, 38, 39, 4, 40, 41, 42, 43, 44, 45, 54, 55, 56, 57, 58, 59, 60, 61, 62, 63, 64, 65, 66, 67, 68, 69, 70, 71, 72, 73, 74, 75, 76, 77, 78, 79, 80, 81, 82, 83, 84, 85, 86] (by decide +kernel) (by decide +kernel)
set_option maxRecDepth 20000 in
theorem gX6_bring_X6_cooksCode : GoodIn wsX6_bring (wsV RX6 228 RX6 yX6_cooksCode wsX6_cooksCode) := goodIn_app (goodIn_of _ (by decide +kernel)) ggX6_bring_X6_cooksCode
set_option maxRecDepth 20000 in
theorem ggX6_bring_X6_isOver : GoodIn wsX6_bring wsX6_isOver := goodIn_r _ [49, 3, 22, 50, 51, 52, 8, 53, 54, 55, 56, 57, 58, 59, 60, 61, 62, 63, 64, 65, 66, 67, 68, 69, 70, 71, 72, 73, 74, 75, 76, 77, 78, 79, 80, 81, 82, 83, 84, 85, 86] (by decide +kernel) (by decide +kernel)
set_option maxRecDepth 20000 in
theorem gX6_bring_X6_isOver : GoodIn wsX6_bring (wsV RX6 111 RX6 yX6_isOver wsX6_isOver) := goodIn_app (goodIn_of _ (by decide +kernel)) ggX6_bring_X6_isOver
set_option maxRecDepth 20000 in
theorem ggX6_digitsOf_X6_power : GoodIn wsX6_digitsOf wsX6_power := goodIn_r _ [4] (by decide +kernel) (by decide +kernel)
set_option maxRecDepth 20000 in
theorem gX6_digitsOf_X6_power : GoodIn wsX6_digitsOf (va_wsS RX6 225 yX6_power wsX6_power) := goodIn_app (goodIn_of _ (by decide +kernel)) ggX6_digitsOf_X6_power
set_option maxRecDepth 20000 in
theorem ggX6_mayHave_X6_isPot : GoodIn wsX6_mayHave wsX6_isPot := goodIn_r _ [10, 11, 12, 13, 9, 14, 51, 52, 53, 54, 55, 56, 57, 58, 59, 60, 61, 62, 63, 64, 65, 66, 67, 68, 69, 70, 71, 72, 73, 74, 75, 76, 77, 78, 79, 80, 81, 82, 83] (by decide +kernel) (by decide +kernel)
set_option maxRecDepth 20000 in
theorem gX6_mayHave_X6_isPot : GoodIn wsX6_mayHave (wsV RX6 163 RX6 yX6_isPot wsX6_isPot) := goodIn_app (goodIn_of _ (by decide +kernel)) ggX6_mayHave_X6_isPot
set_option maxRecDepth 20000 in
theorem ggX6_mayHave_X6_in : GoodIn wsX6_mayHave wsX6_in := goodIn_r _ [14] (by decide +kernel) (by decide +kernel)
set_option maxRecDepth 20000 in
theorem gX6_mayHave_X6_in : GoodIn wsX6_mayHave (va_wsS RX6 84 yX6_in wsX6_in) := goodIn_app (goodIn_of _ (by decide +kernel)) ggX6_mayHave_X6_in
set_option maxRecDepth 20000 in
theorem ggX6_mayHave_X6_power : GoodIn wsX6_mayHave wsX6_power := goodIn_r _ [17] (by decide +kernel) (by decide +kernel)
set_option maxRecDepth 20000 in
theorem gX6_mayHave_X6_power : GoodIn wsX6_mayHave (va_wsS RX6 225 yX6_power wsX6_power) := goodIn_app (goodIn_of _ (by decide +kernel)) ggX6_mayHave_X6_power
set_option maxRecDepth 20000 in
theorem ggX6_mayHave_X6_empty : GoodIn wsX6_mayHave wsX6_empty := goodIn_r _ [21, 5, 4, 51, 52, 53, 54, 55, 56, 57, 58, 59, 60, 61, 62, 63, 64, 65, 66, 67, 68, 69, 70, 71, 72, 73, 74, 75, 76, 77, 78, 79, 80, 81, 82, 83] (by decide +kernel) (by decide +kernel)
set_option maxRecDepth 20000 in
theorem gX6_mayHave_X6_empty : GoodIn wsX6_mayHave (wsV RX6 159 RX6 yX6_empty wsX6_empty) := goodIn_app (goodIn_of _ (by decide +kernel)) ggX6_mayHave_X6_empty
set_option maxRecDepth 20000 in
theorem ggX6_mayHave_X6_cooksCode : GoodIn wsX6_mayHave wsX6_cooksCode := goodIn_r _ [25, 15, 16, 9, 17, 26, 27, 28, 29, 5, 30, 31, 32, 33, 4, 34, 35, 36, 37, 38, 3, 39, 40, 41, 42, 43, 44, 51, 52, 53, 54, 55, 56, 57, 58, 59, 60, 61, 62, 63, 64, 65, 66, 67, 68, 69, 70, 71, 72, 73, 74, 75, 76, 77, 78, 79, 80, 81, 82, 83] (by decide +kernel) (by decide +kernel)
set_option maxRecDepth 20000 in
theorem gX6_mayHave_X6_cooksCode : GoodIn wsX6_mayHave (wsV RX6 228 RX6 yX6_cooksCode wsX6_cooksCode) := goodIn_app (goodIn_of _ (by decide +kernel)) ggX6_mayHave_X6_cooksCode
set_option maxRecDepth 20000 in
theorem ggX6_mayHave_X6_nine : GoodIn wsX6_mayHave wsX6_nine := goodIn_r _ [38, 3] (by decide +kernel) (by decide +kernel)
set_option maxRecDepth 20000 in
theorem gX6_mayHave_X6_nine : GoodIn wsX6_mayHave (va_wsS RX6 90 yX6_nine wsX6_nine) := goodIn_app (goodIn_of _ (by decide +kernel)) ggX6_mayHave_X6_nine
set_option maxRecDepth 20000 in
theorem ggX6_mayHave_X6_least : GoodIn wsX6_mayHave wsX6_least := goodIn_r _ [47] (by decide +kernel) (by decide +kernel)
set_option maxRecDepth 20000 in
theorem gX6_mayHave_X6_least : GoodIn wsX6_mayHave (va_wsS RX6 199 yX6_least wsX6_least) := goodIn_app (goodIn_of _ (by decide +kernel)) ggX6_mayHave_X6_least
set_option maxRecDepth 20000 in
theorem ggX6_mayHave_X6_digitsOf : GoodIn wsX6_mayHave wsX6_digitsOf := goodIn_r _ [50, 15, 16, 9, 17] (by decide +kernel) (by decide +kernel)
set_option maxRecDepth 20000 in
theorem gX6_mayHave_X6_digitsOf : GoodIn wsX6_mayHave (va_wsS RX6 231 yX6_digitsOf wsX6_digitsOf) := goodIn_app (goodIn_of _ (by decide +kernel)) ggX6_mayHave_X6_digitsOf
set_option maxRecDepth 20000 in
theorem ggX6_alikeIn_X6_portionOf : GoodIn wsX6_alikeIn wsX6_portionOf := goodIn_r _ [6, 7, 8, 9, 10, 11, 5, 12, 13, 14, 15, 16, 17, 18, 19, 20, 21, 22, 23, 24, 25, 26, 27, 28, 29, 30, 31, 32, 33, 34, 35, 36, 37, 38, 39, 40, 41, 42, 43, 44, 45] (by decide +kernel) (by decide +kernel)
set_option maxRecDepth 20000 in
theorem gX6_alikeIn_X6_portionOf : GoodIn wsX6_alikeIn (wsV RX6 203 RX6 yX6_portionOf wsX6_portionOf) := goodIn_app (goodIn_of _ (by decide +kernel)) ggX6_alikeIn_X6_portionOf
set_option maxRecDepth 20000 in
theorem ggX6_tells_X6_in : GoodIn wsX6_tells wsX6_in := goodIn_r _ [6] (by decide +kernel) (by decide +kernel)
set_option maxRecDepth 20000 in
theorem gX6_tells_X6_in : GoodIn wsX6_tells (va_wsS RX6 84 yX6_in wsX6_in) := goodIn_app (goodIn_of _ (by decide +kernel)) ggX6_tells_X6_in
set_option maxRecDepth 20000 in
theorem ggX6_tells_X6_alikeIn : GoodIn wsX6_tells wsX6_alikeIn := goodIn_r _ [10, 2, 11, 12, 13, 5, 14, 15, 16, 17, 18, 19, 20, 21, 22, 23, 24, 25, 26, 27, 28, 29, 30, 31, 32, 33, 34, 35, 36, 37, 38, 39, 40, 41, 42, 43, 44, 45, 46, 47, 48, 49, 50, 51, 52, 53] (by decide +kernel) (by decide +kernel)
set_option maxRecDepth 20000 in
theorem gX6_tells_X6_alikeIn : GoodIn wsX6_tells (wsV RX6 234 RX6 yX6_alikeIn wsX6_alikeIn) := goodIn_app (goodIn_of _ (by decide +kernel)) ggX6_tells_X6_alikeIn
set_option maxRecDepth 20000 in
theorem ggX6_lent_X6_isPot : GoodIn wsX6_lent wsX6_isPot := goodIn_r _ [9, 10, 11, 12, 8, 13, 55, 56, 57, 58, 59, 60, 61, 62, 63, 64, 65, 66, 67, 68, 69, 70, 71, 72, 73, 74, 75, 76, 77, 78, 79, 80, 81, 82, 83, 84, 85, 86, 87] (by decide +kernel) (by decide +kernel)
set_option maxRecDepth 20000 in
theorem gX6_lent_X6_isPot : GoodIn wsX6_lent (wsV RX6 163 RX6 yX6_isPot wsX6_isPot) := goodIn_app (goodIn_of _ (by decide +kernel)) ggX6_lent_X6_isPot
set_option maxRecDepth 20000 in
theorem ggX6_lent_X6_wrongDish : GoodIn wsX6_lent wsX6_wrongDish := goodIn_r _ [17, 18, 19, 11, 12, 8, 13, 55, 56, 57, 58, 59, 60, 61, 62, 63, 64, 65, 66, 67, 68, 69, 70, 71, 72, 73, 74, 75, 76, 77, 78, 79, 80, 81, 82, 83, 84, 85, 86, 87] (by decide +kernel) (by decide +kernel)
set_option maxRecDepth 20000 in
theorem gX6_lent_X6_wrongDish : GoodIn wsX6_lent (wsV RX6 192 RX6 yX6_wrongDish wsX6_wrongDish) := goodIn_app (goodIn_of _ (by decide +kernel)) ggX6_lent_X6_wrongDish
set_option maxRecDepth 20000 in
theorem ggX6_lent_X6_same : GoodIn wsX6_lent wsX6_same := goodIn_r _ [23, 24, 25, 26, 27, 55, 56, 57, 58, 59, 60, 61, 62, 63, 64, 65, 66, 67, 68, 69, 70, 71, 72, 73, 74, 75, 76, 77, 78, 79, 80, 81, 82, 83, 84, 85, 86, 87] (by decide +kernel) (by decide +kernel)
set_option maxRecDepth 20000 in
theorem gX6_lent_X6_same : GoodIn wsX6_lent (wsV RX6 170 RX6 yX6_same wsX6_same) := goodIn_app (goodIn_of _ (by decide +kernel)) ggX6_lent_X6_same
set_option maxRecDepth 20000 in
theorem ggX6_lent_X6_becomes : GoodIn wsX6_lent wsX6_becomes := goodIn_r _ [31, 24, 25, 26, 27, 32, 33, 8, 34, 35, 36, 37, 38, 39, 40, 41, 55, 56, 57, 58, 59, 60, 61, 62, 63, 64, 65, 66, 67, 68, 69, 70, 71, 72, 73, 74, 75, 76, 77, 78, 79, 80, 81, 82, 83, 84, 85, 86, 87] (by decide +kernel) (by decide +kernel)
set_option maxRecDepth 20000 in
theorem gX6_lent_X6_becomes : GoodIn wsX6_lent (wsV RX6 102 RX6 yX6_becomes wsX6_becomes) := goodIn_app (goodIn_of _ (by decide +kernel)) ggX6_lent_X6_becomes
set_option maxRecDepth 20000 in
theorem ggX6_lent_X6_portionOf : GoodIn wsX6_lent wsX6_portionOf := goodIn_r _ [45, 46, 25, 47, 48, 49, 8, 50, 55, 56, 57, 58, 59, 60, 61, 62, 63, 64, 65, 66, 67, 68, 69, 70, 71, 72, 73, 74, 75, 76, 77, 78, 79, 80, 81, 82, 83, 84, 85, 86, 87] (by decide +kernel) (by decide +kernel)
set_option maxRecDepth 20000 in
theorem gX6_lent_X6_portionOf : GoodIn wsX6_lent (wsV RX6 203 RX6 yX6_portionOf wsX6_portionOf) := goodIn_app (goodIn_of _ (by decide +kernel)) ggX6_lent_X6_portionOf
set_option maxRecDepth 20000 in
theorem ggX6_lent_X6_empty : GoodIn wsX6_lent wsX6_empty := goodIn_r _ [54, 24, 25, 55, 56, 57, 58, 59, 60, 61, 62, 63, 64, 65, 66, 67, 68, 69, 70, 71, 72, 73, 74, 75, 76, 77, 78, 79, 80, 81, 82, 83, 84, 85, 86, 87] (by decide +kernel) (by decide +kernel)
set_option maxRecDepth 20000 in
theorem gX6_lent_X6_empty : GoodIn wsX6_lent (wsV RX6 159 RX6 yX6_empty wsX6_empty) := goodIn_app (goodIn_of _ (by decide +kernel)) ggX6_lent_X6_empty
set_option maxRecDepth 20000 in
theorem ggX6_gone_X6_in : GoodIn wsX6_gone wsX6_in := goodIn_r _ [8] (by decide +kernel) (by decide +kernel)
set_option maxRecDepth 20000 in
theorem gX6_gone_X6_in : GoodIn wsX6_gone (va_wsS RX6 84 yX6_in wsX6_in) := goodIn_app (goodIn_of _ (by decide +kernel)) ggX6_gone_X6_in
set_option maxRecDepth 20000 in
theorem ggX6_gone_X6_keepsOf : GoodIn wsX6_gone wsX6_keepsOf := goodIn_r _ [11] (by decide +kernel) (by decide +kernel)
set_option maxRecDepth 20000 in
theorem gX6_gone_X6_keepsOf : GoodIn wsX6_gone (va_wsS RX6 98 yX6_keepsOf wsX6_keepsOf) := goodIn_app (goodIn_of _ (by decide +kernel)) ggX6_gone_X6_keepsOf
set_option maxRecDepth 20000 in
theorem ggX6_seeded_X6_in : GoodIn wsX6_seeded wsX6_in := goodIn_r _ [8] (by decide +kernel) (by decide +kernel)
set_option maxRecDepth 20000 in
theorem gX6_seeded_X6_in : GoodIn wsX6_seeded (va_wsS RX6 84 yX6_in wsX6_in) := goodIn_app (goodIn_of _ (by decide +kernel)) ggX6_seeded_X6_in
set_option maxRecDepth 20000 in
theorem ggX6_seeded_X6_empty : GoodIn wsX6_seeded wsX6_empty := goodIn_r _ [12, 13, 14, 51, 52, 53, 54, 55, 56, 57, 58, 59, 60, 61, 62, 63, 64, 65, 66, 67, 68, 69, 70, 71, 72, 73, 74, 75, 76, 77, 78, 79, 80, 81, 82, 83] (by decide +kernel) (by decide +kernel)
set_option maxRecDepth 20000 in
theorem gX6_seeded_X6_empty : GoodIn wsX6_seeded (wsV RX6 159 RX6 yX6_empty wsX6_empty) := goodIn_app (goodIn_of _ (by decide +kernel)) ggX6_seeded_X6_empty
set_option maxRecDepth 20000 in
theorem ggX6_seeded_X6_draw : GoodIn wsX6_seeded wsX6_draw := goodIn_r _ [18, 4, 19, 20, 21, 51, 52, 53, 54, 55, 56, 57, 58, 59, 60, 61, 62, 63, 64, 65, 66, 67, 68, 69, 70, 71, 72, 73, 74, 75, 76, 77, 78, 79, 80, 81, 82, 83] (by decide +kernel) (by decide +kernel)
set_option maxRecDepth 20000 in
theorem gX6_seeded_X6_draw : GoodIn wsX6_seeded (wsV RX6 246 RX6 yX6_draw wsX6_draw) := goodIn_app (goodIn_of _ (by decide +kernel)) ggX6_seeded_X6_draw
set_option maxRecDepth 20000 in
theorem ggX6_seeded_X6_cooks : GoodIn wsX6_seeded wsX6_cooks := goodIn_r _ [25, 13, 26, 27, 28, 7, 29, 14, 30, 31, 32, 33, 34, 35, 36, 37, 38, 39, 40, 41, 51, 52, 53, 54, 55, 56, 57, 58, 59, 60, 61, 62, 63, 64, 65, 66, 67, 68, 69, 70, 71, 72, 73, 74, 75, 76, 77, 78, 79, 80, 81, 82, 83] (by decide +kernel) (by decide +kernel)
set_option maxRecDepth 20000 in
theorem gX6_seeded_X6_cooks : GoodIn wsX6_seeded (wsV RX6 167 RX6 yX6_cooks wsX6_cooks) := goodIn_app (goodIn_of _ (by decide +kernel)) ggX6_seeded_X6_cooks
set_option maxRecDepth 20000 in
theorem ggX6_seeded_X6_portionOf : GoodIn wsX6_seeded wsX6_portionOf := goodIn_r _ [45, 46, 14, 47, 48, 49, 7, 50, 51, 52, 53, 54, 55, 56, 57, 58, 59, 60, 61, 62, 63, 64, 65, 66, 67, 68, 69, 70, 71, 72, 73, 74, 75, 76, 77, 78, 79, 80, 81, 82, 83] (by decide +kernel) (by decide +kernel)
set_option maxRecDepth 20000 in
theorem gX6_seeded_X6_portionOf : GoodIn wsX6_seeded (wsV RX6 203 RX6 yX6_portionOf wsX6_portionOf) := goodIn_app (goodIn_of _ (by decide +kernel)) ggX6_seeded_X6_portionOf
set_option maxRecDepth 20000 in
theorem ggX6_judge_X6_wrongRow : GoodIn wsX6_judge wsX6_wrongRow := goodIn_r _ [9, 10, 11, 12, 13, 8, 14, 33, 34, 35, 36, 37, 38, 39, 40, 41, 42, 43, 44, 45, 46, 47, 48, 49, 50, 51, 52, 53, 54, 55, 56, 57, 58, 59, 60, 61, 62, 63, 64, 65] (by decide +kernel) (by decide +kernel)
set_option maxRecDepth 20000 in
theorem gX6_judge_X6_wrongRow : GoodIn wsX6_judge (wsV RX6 255 RX6 yX6_wrongRow wsX6_wrongRow) := goodIn_app (goodIn_of _ (by decide +kernel)) ggX6_judge_X6_wrongRow
set_option maxRecDepth 20000 in
theorem ggX6_judge_X6_skippedIn : GoodIn wsX6_judge wsX6_skippedIn := goodIn_r _ [18, 19, 20, 21, 22, 33, 34, 35, 36, 37, 38, 39, 40, 41, 42, 43, 44, 45, 46, 47, 48, 49, 50, 51, 52, 53, 54, 55, 56, 57, 58, 59, 60, 61, 62, 63, 64, 65] (by decide +kernel) (by decide +kernel)
set_option maxRecDepth 20000 in
theorem gX6_judge_X6_skippedIn : GoodIn wsX6_judge (wsV RX6 258 RX6 yX6_skippedIn wsX6_skippedIn) := goodIn_app (goodIn_of _ (by decide +kernel)) ggX6_judge_X6_skippedIn
set_option maxRecDepth 20000 in
theorem ggX6_judge_X6_portionOf : GoodIn wsX6_judge wsX6_portionOf := goodIn_r _ [26, 27, 28, 29, 30, 31, 8, 32, 33, 34, 35, 36, 37, 38, 39, 40, 41, 42, 43, 44, 45, 46, 47, 48, 49, 50, 51, 52, 53, 54, 55, 56, 57, 58, 59, 60, 61, 62, 63, 64, 65] (by decide +kernel) (by decide +kernel)
set_option maxRecDepth 20000 in
theorem gX6_judge_X6_portionOf : GoodIn wsX6_judge (wsV RX6 203 RX6 yX6_portionOf wsX6_portionOf) := goodIn_app (goodIn_of _ (by decide +kernel)) ggX6_judge_X6_portionOf
set_option maxRecDepth 20000 in
theorem ggX6_count_X6_allOf : GoodIn wsX6_count wsX6_allOf := goodIn_r _ [9, 10, 11, 12, 13, 14, 15, 16, 17, 18, 19, 20, 21, 22, 23, 24, 25, 26, 27, 28, 29, 30, 31, 32, 33, 34, 35, 36, 37, 38, 39, 40, 41, 42, 43] (by decide +kernel) (by decide +kernel)
set_option maxRecDepth 20000 in
theorem gX6_count_X6_allOf : GoodIn wsX6_count (wsV RX6 106 RX6 yX6_allOf wsX6_allOf) := goodIn_app (goodIn_of _ (by decide +kernel)) ggX6_count_X6_allOf
set_option maxRecDepth 20000 in
theorem ggX6_wrongSort_X6_wrongRow : GoodIn wsX6_wrongSort wsX6_wrongRow := goodIn_r _ [6, 7, 8, 9, 10, 5, 11, 12, 13, 14, 15, 16, 17, 18, 19, 20, 21, 22, 23, 24, 25, 26, 27, 28, 29, 30, 31, 32, 33, 34, 35, 36, 37, 38, 39, 40, 41, 42, 43, 44] (by decide +kernel) (by decide +kernel)
set_option maxRecDepth 20000 in
theorem gX6_wrongSort_X6_wrongRow : GoodIn wsX6_wrongSort (wsV RX6 255 RX6 yX6_wrongRow wsX6_wrongRow) := goodIn_app (goodIn_of _ (by decide +kernel)) ggX6_wrongSort_X6_wrongRow
set_option maxRecDepth 20000 in
theorem ggX6_keep_X6_in : GoodIn wsX6_keep wsX6_in := goodIn_r _ [10] (by decide +kernel) (by decide +kernel)
set_option maxRecDepth 20000 in
theorem gX6_keep_X6_in : GoodIn wsX6_keep (va_wsS RX6 84 yX6_in wsX6_in) := goodIn_app (goodIn_of _ (by decide +kernel)) ggX6_keep_X6_in
set_option maxRecDepth 20000 in
theorem ggX6_wrongRow_X6_in : GoodIn wsX6_wrongRow wsX6_in := goodIn_r _ [6] (by decide +kernel) (by decide +kernel)
set_option maxRecDepth 20000 in
theorem gX6_wrongRow_X6_in : GoodIn wsX6_wrongRow (va_wsS RX6 84 yX6_in wsX6_in) := goodIn_app (goodIn_of _ (by decide +kernel)) ggX6_wrongRow_X6_in
set_option maxRecDepth 20000 in
theorem ggX6_row_X6_in : GoodIn wsX6_row wsX6_in := goodIn_r _ [11] (by decide +kernel) (by decide +kernel)
set_option maxRecDepth 20000 in
theorem gX6_row_X6_in : GoodIn wsX6_row (va_wsS RX6 84 yX6_in wsX6_in) := goodIn_app (goodIn_of _ (by decide +kernel)) ggX6_row_X6_in
set_option maxRecDepth 20000 in
theorem ggX6_put_X6_wrongRow : GoodIn wsX6_put wsX6_wrongRow := goodIn_r _ [9, 10, 11, 12, 13, 8, 14, 18, 19, 20, 21, 22, 23, 24, 25, 26, 27, 28, 29, 30, 31, 32, 33, 34, 35, 36, 37, 38, 39, 40, 41, 42, 43, 44, 45, 46, 47, 48, 49, 50] (by decide +kernel) (by decide +kernel)
set_option maxRecDepth 20000 in
theorem gX6_put_X6_wrongRow : GoodIn wsX6_put (wsV RX6 255 RX6 yX6_wrongRow wsX6_wrongRow) := goodIn_app (goodIn_of _ (by decide +kernel)) ggX6_put_X6_wrongRow
set_option maxRecDepth 20000 in
theorem ggX6_put_X6_in : GoodIn wsX6_put wsX6_in := goodIn_r _ [14] (by decide +kernel) (by decide +kernel)
set_option maxRecDepth 20000 in
theorem gX6_put_X6_in : GoodIn wsX6_put (va_wsS RX6 84 yX6_in wsX6_in) := goodIn_app (goodIn_of _ (by decide +kernel)) ggX6_put_X6_in
set_option maxRecDepth 20000 in
theorem ggX6_put_X6_narrowed : GoodIn wsX6_put wsX6_narrowed := goodIn_r _ [17] (by decide +kernel) (by decide +kernel)
set_option maxRecDepth 20000 in
theorem gX6_put_X6_narrowed : GoodIn wsX6_put (va_wsS RX6 263 yX6_narrowed wsX6_narrowed) := goodIn_app (goodIn_of _ (by decide +kernel)) ggX6_put_X6_narrowed
set_option maxRecDepth 20000 in
theorem ggX6_element_X6_wrongRow : GoodIn wsX6_element wsX6_wrongRow := goodIn_r _ [8, 9, 10, 11, 12, 7, 13, 14, 15, 16, 17, 18, 19, 20, 21, 22, 23, 24, 25, 26, 27, 28, 29, 30, 31, 32, 33, 34, 35, 36, 37, 38, 39, 40, 41, 42, 43, 44, 45, 46] (by decide +kernel) (by decide +kernel)
set_option maxRecDepth 20000 in
theorem gX6_element_X6_wrongRow : GoodIn wsX6_element (wsV RX6 255 RX6 yX6_wrongRow wsX6_wrongRow) := goodIn_app (goodIn_of _ (by decide +kernel)) ggX6_element_X6_wrongRow
set_option maxRecDepth 20000 in
theorem ggX6_element_X6_in : GoodIn wsX6_element wsX6_in := goodIn_r _ [13] (by decide +kernel) (by decide +kernel)
set_option maxRecDepth 20000 in
theorem gX6_element_X6_in : GoodIn wsX6_element (va_wsS RX6 84 yX6_in wsX6_in) := goodIn_app (goodIn_of _ (by decide +kernel)) ggX6_element_X6_in
set_option maxRecDepth 20000 in
theorem ggX6_copy_X6_in : GoodIn wsX6_copy wsX6_in := goodIn_r _ [11] (by decide +kernel) (by decide +kernel)
set_option maxRecDepth 20000 in
theorem gX6_copy_X6_in : GoodIn wsX6_copy (va_wsS RX6 84 yX6_in wsX6_in) := goodIn_app (goodIn_of _ (by decide +kernel)) ggX6_copy_X6_in
set_option maxRecDepth 20000 in
theorem ggX6_price_X6_wrongDish : GoodIn wsX6_price wsX6_wrongDish := goodIn_r _ [8, 9, 10, 11, 12, 7, 13, 17, 18, 19, 20, 21, 22, 23, 24, 25, 26, 27, 28, 29, 30, 31, 32, 33, 34, 35, 36, 37, 38, 39, 40, 41, 42, 43, 44, 45, 46, 47, 48, 49] (by decide +kernel) (by decide +kernel)
set_option maxRecDepth 20000 in
theorem gX6_price_X6_wrongDish : GoodIn wsX6_price (wsV RX6 192 RX6 yX6_wrongDish wsX6_wrongDish) := goodIn_app (goodIn_of _ (by decide +kernel)) ggX6_price_X6_wrongDish
set_option maxRecDepth 20000 in
theorem ggX6_price_X6_priceOf : GoodIn wsX6_price wsX6_priceOf := goodIn_r _ [16] (by decide +kernel) (by decide +kernel)
set_option maxRecDepth 20000 in
theorem gX6_price_X6_priceOf : GoodIn wsX6_price (va_wsS RX6 266 yX6_priceOf wsX6_priceOf) := goodIn_app (goodIn_of _ (by decide +kernel)) ggX6_price_X6_priceOf
set_option maxRecDepth 20000 in
theorem ggX6_toss_X6_wrongDish : GoodIn wsX6_toss wsX6_wrongDish := goodIn_r _ [8, 9, 10, 11, 12, 7, 13, 17, 18, 19, 20, 21, 22, 23, 24, 25, 26, 27, 28, 29, 30, 31, 32, 33, 34, 35, 36, 37, 38, 39, 40, 41, 42, 43, 44, 45, 46, 47, 48, 49] (by decide +kernel) (by decide +kernel)
set_option maxRecDepth 20000 in
theorem gX6_toss_X6_wrongDish : GoodIn wsX6_toss (wsV RX6 192 RX6 yX6_wrongDish wsX6_wrongDish) := goodIn_app (goodIn_of _ (by decide +kernel)) ggX6_toss_X6_wrongDish
set_option maxRecDepth 20000 in
theorem ggX6_toss_X6_priceOf : GoodIn wsX6_toss wsX6_priceOf := goodIn_r _ [16] (by decide +kernel) (by decide +kernel)
set_option maxRecDepth 20000 in
theorem gX6_toss_X6_priceOf : GoodIn wsX6_toss (va_wsS RX6 266 yX6_priceOf wsX6_priceOf) := goodIn_app (goodIn_of _ (by decide +kernel)) ggX6_toss_X6_priceOf
set_option maxRecDepth 20000 in
theorem ggL_element_X5_element : GoodIn wsL_element wsX5_element := goodIn_ca (goodIn_ca (goodIn_r _ [7, 8, 9, 10, 11, 12, 13, 14, 15, 6, 16, 17, 18, 19, 20, 21, 22, 23, 24, 25, 26, 27, 28, 29, 30, 31, 32, 33, 34, 35, 36, 37, 38, 39, 40, 41] (by decide +kernel) (by decide +kernel)) (goodIn_sub (fun _ h => List.mem_cons_of_mem _ (List.mem_append_left _ (List.mem_append_right _ h))) (by decide +kernel))) (goodIn_sub (fun _ h => List.mem_cons_of_mem _ (List.mem_append_right _ h)) (by decide +kernel))
set_option maxRecDepth 20000 in
theorem gL_element_X5_element : GoodIn wsL_element (wsV RL 7 RX5 yX5_element wsX5_element) := goodIn_app (goodIn_of _ (by decide +kernel)) ggL_element_X5_element
set_option maxRecDepth 20000 in
theorem ggL_law_X5_init : GoodIn wsL_law wsX5_init := goodIn_r _ [9, 10, 11, 12, 13, 14, 15, 16, 17, 18, 19, 20, 21, 22, 23, 24, 25, 26, 27, 28, 29, 30, 31, 32, 33, 34, 35, 36, 37, 38, 39, 40, 41, 42, 43, 44, 45, 46, 47, 48, 49, 50, 6, 51, 52, 53, 54, 55, 56, 57, 58, 59, 60, 61, 62, 63, 897, 898, 856, 857, 858, 859, 860, 861, 862, 863, 899, 900, 901, 902, 903, 904, 905, 906, 907, 908, 909, 910, 911, 912, 913, 914, 915, 916, 917] (by decide +kernel) (by decide +kernel)
set_option maxRecDepth 20000 in
theorem gL_law_X5_init : GoodIn wsL_law (wsX5_init) := ggL_law_X5_init
set_option maxRecDepth 20000 in
theorem ggL_law_X6_init : GoodIn wsL_law wsX6_init := goodIn_r _ [66, 67, 11, 12, 6, 68, 27, 69, 70, 71, 72, 73, 74, 75, 76, 77, 78, 79, 80, 81, 82, 83, 84, 85, 86, 87, 88, 89, 90, 864, 865, 866, 867, 868, 869, 870, 871, 872, 873, 874, 875, 876, 877, 878, 879, 880, 881, 882, 883, 884, 885, 886, 887, 888, 889, 890, 891, 892, 893, 894, 895, 896] (by decide +kernel) (by decide +kernel)
set_option maxRecDepth 20000 in
theorem gL_law_X6_init : GoodIn wsL_law (wsX6_init) := ggL_law_X6_init
set_option maxRecDepth 20000 in
theorem ggL_law_X5_kitchen : GoodIn wsL_law wsX5_kitchen := goodIn_r _ [94, 30, 17, 16, 95, 96, 97, 98, 2, 99, 100, 101, 102, 103, 104, 105, 106, 107, 108, 109, 110, 32, 111, 112, 113, 114, 115, 116, 117, 118, 15, 119, 120, 121, 122, 123, 124, 63, 125, 126, 127, 128, 129, 130, 131, 132, 133, 134, 135, 136, 137, 138, 139, 140, 141, 142, 143, 144, 38, 145, 146, 147, 40, 148, 45, 46, 149, 150, 151, 152, 47, 153, 154, 155, 25, 156, 51, 52, 157, 158, 159, 160, 161, 162, 163, 164, 165, 166, 167, 168, 169, 170, 171, 172, 173, 174, 175, 176, 177, 178, 179, 180, 181, 182, 183, 184, 185, 186, 187, 188, 189, 190, 191, 192, 193, 194, 195, 196, 197, 198, 199, 200, 201, 202, 203, 204, 205, 206, 207, 208, 856, 857, 858, 859, 860, 861, 862, 863, 909, 910, 911, 912, 913, 914, 897, 898, 915, 916, 917, 906, 907, 908] (by decide +kernel) (by decide +kernel)
set_option maxRecDepth 20000 in
theorem gL_law_X5_kitchen : GoodIn wsL_law (wsV RL 21 RX5 yX5_kitchen wsX5_kitchen) := goodIn_app (goodIn_of _ (by decide +kernel)) ggL_law_X5_kitchen
set_option maxRecDepth 20000 in
theorem ggL_law_X6_kitchen : GoodIn wsL_law wsX6_kitchen := goodIn_r _ [212, 90, 213, 87, 214, 215, 216, 217, 80, 218, 219, 220, 5, 221, 86, 222, 223, 224, 225, 226, 83, 227, 228, 229, 230, 231, 232, 233, 81, 82, 234, 235, 236, 237, 88, 238, 239, 240, 241, 242, 243, 244, 245, 246, 247, 248, 249, 68, 76, 69, 77, 70, 78, 71, 79, 250, 251, 252, 253, 254, 255, 256, 257, 258, 259, 260, 261, 262, 263, 264, 265, 266, 267, 268, 269, 270, 271, 272, 273, 274, 275, 276, 277, 278, 279, 280, 281, 282, 283, 284, 285, 286, 287, 288, 289, 290, 291, 292, 293, 864, 865, 866, 867, 868, 869, 870, 871, 872, 873, 874, 875, 876, 877, 878, 879, 880, 881, 882, 883, 884, 885, 886, 887, 888, 889, 890, 891, 892, 893, 894, 895, 896] (by decide +kernel) (by decide +kernel)
set_option maxRecDepth 20000 in
theorem gL_law_X6_kitchen : GoodIn wsL_law (wsV RL 25 RX6 yX6_kitchen wsX6_kitchen) := goodIn_app (goodIn_of _ (by decide +kernel)) ggL_law_X6_kitchen
set_option maxRecDepth 20000 in
theorem ggL_law_X5_pot : GoodIn wsL_law wsX5_pot := goodIn_r _ [297, 16, 298, 299, 163, 164, 15, 165, 144, 38, 166, 167, 168, 169, 25, 170, 51, 52, 157, 856, 857, 858, 859, 860, 861, 862, 863, 897, 898, 915, 916, 917, 906, 907, 908] (by decide +kernel) (by decide +kernel)
set_option maxRecDepth 20000 in
theorem gL_law_X5_pot : GoodIn wsL_law (wsV RL 26 RX5 yX5_pot wsX5_pot) := goodIn_app (goodIn_of _ (by decide +kernel)) ggL_law_X5_pot
set_option maxRecDepth 20000 in
theorem ggL_law_X6_pot : GoodIn wsL_law wsX6_pot := goodIn_r _ [303, 90, 248, 260, 261, 262, 5, 263, 69, 68, 864, 865, 866, 867, 868, 869, 870, 871, 872, 873, 874, 875, 876, 877, 878, 879, 880, 881, 882, 883, 884, 885, 886, 887, 888, 889, 890, 891, 892, 893, 894, 895, 896] (by decide +kernel) (by decide +kernel)
set_option maxRecDepth 20000 in
theorem gL_law_X6_pot : GoodIn wsL_law (wsV RL 30 RX6 yX6_pot wsX6_pot) := goodIn_app (goodIn_of _ (by decide +kernel)) ggL_law_X6_pot
set_option maxRecDepth 20000 in
theorem ggL_law_X5_cook : GoodIn wsL_law wsX5_cook := goodIn_r _ [307, 16, 308, 30, 309, 310, 311, 312, 313, 176, 177, 15, 178, 144, 314, 315, 316, 2, 317, 105, 106, 107, 108, 109, 110, 32, 111, 112, 113, 114, 115, 116, 318, 182, 183, 40, 184, 45, 46, 185, 47, 186, 187, 188, 25, 189, 157, 190, 191, 192, 193, 52, 194, 51, 195, 196, 197, 198, 856, 857, 858, 859, 860, 861, 862, 863, 897, 898, 909, 910, 911, 912, 913, 914, 915, 916, 917, 906, 907, 908] (by decide +kernel) (by decide +kernel)
set_option maxRecDepth 20000 in
theorem gL_law_X5_cook : GoodIn wsL_law (wsV RL 31 RX5 yX5_cook wsX5_cook) := goodIn_app (goodIn_of _ (by decide +kernel)) ggL_law_X5_cook
set_option maxRecDepth 20000 in
theorem ggL_law_X6_cook : GoodIn wsL_law wsX6_cook := goodIn_r _ [322, 90, 84, 85, 69, 264, 265, 266, 5, 267, 248, 227, 228, 229, 323, 324, 325, 326, 226, 83, 268, 269, 270, 271, 272, 273, 274, 275, 68, 70, 71, 276, 277, 278, 279, 280, 281, 282, 283, 284, 285, 864, 865, 866, 867, 868, 869, 870, 871, 872, 873, 874, 875, 876, 877, 878, 879, 880, 881, 882, 883, 884, 885, 886, 887, 888, 889, 890, 891, 892, 893, 894, 895, 896] (by decide +kernel) (by decide +kernel)
set_option maxRecDepth 20000 in
theorem gL_law_X6_cook : GoodIn wsL_law (wsV RL 35 RX6 yX6_cook wsX6_cook) := goodIn_app (goodIn_of _ (by decide +kernel)) ggL_law_X6_cook
set_option maxRecDepth 20000 in
theorem ggL_law_X5_dish : GoodIn wsL_law wsX5_dish := goodIn_r _ [330, 16, 308, 313, 176, 177, 15, 178, 144, 331, 332, 2, 333, 334, 335, 336, 40, 337, 45, 185, 338, 339, 340, 341, 46, 342, 343, 344, 345, 47, 856, 857, 858, 859, 860, 861, 862, 863, 897, 898, 915, 916, 917, 906, 907, 908] (by decide +kernel) (by decide +kernel)
set_option maxRecDepth 20000 in
theorem gL_law_X5_dish : GoodIn wsL_law (wsV RL 36 RX5 yX5_dish wsX5_dish) := goodIn_app (goodIn_of _ (by decide +kernel)) ggL_law_X5_dish
set_option maxRecDepth 20000 in
theorem ggL_law_X6_dish : GoodIn wsL_law wsX6_dish := goodIn_r _ [349, 90, 69, 70, 71, 264, 265, 266, 5, 267, 248, 227, 228, 229, 864, 865, 866, 867, 868, 869, 870, 871, 872, 873, 874, 875, 876, 877, 878, 879, 880, 881, 882, 883, 884, 885, 886, 887, 888, 889, 890, 891, 892, 893, 894, 895, 896] (by decide +kernel) (by decide +kernel)
set_option maxRecDepth 20000 in
theorem gL_law_X6_dish : GoodIn wsL_law (wsV RL 40 RX6 yX6_dish wsX6_dish) := goodIn_app (goodIn_of _ (by decide +kernel)) ggL_law_X6_dish
set_option maxRecDepth 20000 in
theorem ggL_law_X5_dishes : GoodIn wsL_law wsX5_dishes := goodIn_r _ [353, 16, 308, 311, 312, 313, 176, 177, 15, 178, 144, 856, 857, 858, 859, 860, 861, 862, 863, 897, 898, 915, 916, 917, 906, 907, 908] (by decide +kernel) (by decide +kernel)
set_option maxRecDepth 20000 in
theorem gL_law_X5_dishes : GoodIn wsL_law (wsV RL 41 RX5 yX5_dishes wsX5_dishes) := goodIn_app (goodIn_of _ (by decide +kernel)) ggL_law_X5_dishes
set_option maxRecDepth 20000 in
theorem ggL_law_X6_dishes : GoodIn wsL_law wsX6_dishes := goodIn_r _ [357, 90, 69, 264, 265, 266, 5, 267, 248, 227, 228, 229, 864, 865, 866, 867, 868, 869, 870, 871, 872, 873, 874, 875, 876, 877, 878, 879, 880, 881, 882, 883, 884, 885, 886, 887, 888, 889, 890, 891, 892, 893, 894, 895, 896] (by decide +kernel) (by decide +kernel)
set_option maxRecDepth 20000 in
theorem gL_law_X6_dishes : GoodIn wsL_law (wsV RL 44 RX6 yX6_dishes wsX6_dishes) := goodIn_app (goodIn_of _ (by decide +kernel)) ggL_law_X6_dishes
set_option maxRecDepth 20000 in
theorem ggL_law_X5_taste : GoodIn wsL_law wsX5_taste := goodIn_r _ [361, 16, 362, 308, 311, 363, 364, 313, 176, 177, 15, 178, 144, 365, 366, 2, 367, 331, 332, 333, 368, 369, 370, 371, 856, 857, 858, 859, 860, 861, 862, 863, 897, 898, 915, 916, 917, 906, 907, 908] (by decide +kernel) (by decide +kernel)
set_option maxRecDepth 20000 in
theorem gL_law_X5_taste : GoodIn wsL_law (wsV RL 45 RX5 yX5_taste wsX5_taste) := goodIn_app (goodIn_of _ (by decide +kernel)) ggL_law_X5_taste
set_option maxRecDepth 20000 in
theorem ggL_law_X6_taste : GoodIn wsL_law wsX6_taste := goodIn_r _ [375, 90, 376, 377, 68, 69, 264, 265, 266, 5, 267, 248, 227, 228, 229, 276, 277, 278, 279, 378, 379, 380, 864, 865, 866, 867, 868, 869, 870, 871, 872, 873, 874, 875, 876, 877, 878, 879, 880, 881, 882, 883, 884, 885, 886, 887, 888, 889, 890, 891, 892, 893, 894, 895, 896] (by decide +kernel) (by decide +kernel)
set_option maxRecDepth 20000 in
theorem gL_law_X6_taste : GoodIn wsL_law (wsV RL 49 RX6 yX6_taste wsX6_taste) := goodIn_app (goodIn_of _ (by decide +kernel)) ggL_law_X6_taste
set_option maxRecDepth 20000 in
theorem ggL_law_X5_all : GoodIn wsL_law wsX5_all := goodIn_r _ [384, 16, 362, 308, 311, 364, 313, 176, 177, 15, 178, 144, 331, 332, 2, 333, 385, 386, 387, 25, 388, 51, 368, 369, 370, 371, 856, 857, 858, 859, 860, 861, 862, 863, 897, 898, 915, 916, 917, 906, 907, 908] (by decide +kernel) (by decide +kernel)
set_option maxRecDepth 20000 in
theorem gL_law_X5_all : GoodIn wsL_law (wsV RL 50 RX5 yX5_all wsX5_all) := goodIn_app (goodIn_of _ (by decide +kernel)) ggL_law_X5_all
set_option maxRecDepth 20000 in
theorem ggL_law_X6_all : GoodIn wsL_law wsX6_all := goodIn_r _ [392, 90, 377, 69, 264, 265, 266, 5, 267, 248, 227, 228, 229, 393, 394, 395, 396, 68, 276, 277, 278, 279, 378, 379, 380, 864, 865, 866, 867, 868, 869, 870, 871, 872, 873, 874, 875, 876, 877, 878, 879, 880, 881, 882, 883, 884, 885, 886, 887, 888, 889, 890, 891, 892, 893, 894, 895, 896] (by decide +kernel) (by decide +kernel)
set_option maxRecDepth 20000 in
theorem gL_law_X6_all : GoodIn wsL_law (wsV RL 53 RX6 yX6_all wsX6_all) := goodIn_app (goodIn_of _ (by decide +kernel)) ggL_law_X6_all
set_option maxRecDepth 20000 in
theorem ggL_law_X5_portion : GoodIn wsL_law wsX5_portion := goodIn_r _ [400, 16, 308, 311, 313, 176, 177, 15, 178, 144, 365, 366, 2, 367, 401, 402, 403, 25, 404, 405, 51, 406, 386, 387, 388, 856, 857, 858, 859, 860, 861, 862, 863, 897, 898, 915, 916, 917, 906, 907, 908] (by decide +kernel) (by decide +kernel)
set_option maxRecDepth 20000 in
theorem gL_law_X5_portion : GoodIn wsL_law (wsV RL 54 RX5 yX5_portion wsX5_portion) := goodIn_app (goodIn_of _ (by decide +kernel)) ggL_law_X5_portion
set_option maxRecDepth 20000 in
theorem ggL_law_X6_portion : GoodIn wsL_law wsX6_portion := goodIn_r _ [410, 90, 376, 264, 265, 266, 5, 267, 248, 227, 228, 229, 411, 412, 413, 414, 415, 68, 393, 394, 395, 396, 864, 865, 866, 867, 868, 869, 870, 871, 872, 873, 874, 875, 876, 877, 878, 879, 880, 881, 882, 883, 884, 885, 886, 887, 888, 889, 890, 891, 892, 893, 894, 895, 896] (by decide +kernel) (by decide +kernel)
set_option maxRecDepth 20000 in
theorem gL_law_X6_portion : GoodIn wsL_law (wsV RL 57 RX6 yX6_portion wsX6_portion) := goodIn_app (goodIn_of _ (by decide +kernel)) ggL_law_X6_portion
set_option maxRecDepth 20000 in
theorem ggL_law_X5_over : GoodIn wsL_law wsX5_over := goodIn_r _ [419, 16, 308, 311, 313, 176, 177, 15, 178, 144, 365, 366, 2, 367, 420, 421, 422, 423, 424, 425, 25, 426, 405, 51, 406, 386, 387, 388, 856, 857, 858, 859, 860, 861, 862, 863, 897, 898, 915, 916, 917, 906, 907, 908] (by decide +kernel) (by decide +kernel)
set_option maxRecDepth 20000 in
theorem gL_law_X5_over : GoodIn wsL_law (wsV RL 58 RX5 yX5_over wsX5_over) := goodIn_app (goodIn_of _ (by decide +kernel)) ggL_law_X5_over
set_option maxRecDepth 20000 in
theorem ggL_law_X6_over : GoodIn wsL_law wsX6_over := goodIn_r _ [430, 90, 376, 415, 264, 265, 266, 5, 267, 248, 227, 228, 229, 431, 432, 433, 434, 68, 393, 394, 395, 396, 864, 865, 866, 867, 868, 869, 870, 871, 872, 873, 874, 875, 876, 877, 878, 879, 880, 881, 882, 883, 884, 885, 886, 887, 888, 889, 890, 891, 892, 893, 894, 895, 896] (by decide +kernel) (by decide +kernel)
set_option maxRecDepth 20000 in
theorem gL_law_X6_over : GoodIn wsL_law (wsV RL 61 RX6 yX6_over wsX6_over) := goodIn_app (goodIn_of _ (by decide +kernel)) ggL_law_X6_over
set_option maxRecDepth 20000 in
theorem ggL_law_X5_part : GoodIn wsL_law wsX5_part := goodIn_r _ [438, 16, 308, 362, 313, 176, 177, 15, 178, 144, 331, 332, 2, 333, 334, 335, 336, 40, 337, 45, 185, 439, 440, 441, 442, 443, 339, 340, 341, 46, 195, 196, 444, 445, 446, 447, 368, 369, 370, 371, 856, 857, 858, 859, 860, 861, 862, 863, 897, 898, 915, 916, 917, 906, 907, 908] (by decide +kernel) (by decide +kernel)
set_option maxRecDepth 20000 in
theorem gL_law_X5_part : GoodIn wsL_law (wsV RL 62 RX5 yX5_part wsX5_part) := goodIn_app (goodIn_of _ (by decide +kernel)) ggL_law_X5_part
set_option maxRecDepth 20000 in
theorem ggL_law_X6_part : GoodIn wsL_law wsX6_part := goodIn_r _ [451, 90, 69, 377, 264, 265, 266, 5, 267, 248, 227, 228, 229, 452, 453, 454, 455, 70, 283, 284, 285, 276, 277, 278, 279, 378, 379, 380, 864, 865, 866, 867, 868, 869, 870, 871, 872, 873, 874, 875, 876, 877, 878, 879, 880, 881, 882, 883, 884, 885, 886, 887, 888, 889, 890, 891, 892, 893, 894, 895, 896] (by decide +kernel) (by decide +kernel)
set_option maxRecDepth 20000 in
theorem gL_law_X6_part : GoodIn wsL_law (wsV RL 65 RX6 yX6_part wsX6_part) := goodIn_app (goodIn_of _ (by decide +kernel)) ggL_law_X6_part
set_option maxRecDepth 20000 in
theorem ggL_law_X5_back : GoodIn wsL_law wsX5_back := goodIn_r _ [459, 16, 308, 311, 312, 460, 313, 176, 177, 15, 178, 144, 461, 462, 2, 463, 439, 440, 441, 40, 442, 443, 339, 340, 341, 46, 45, 185, 195, 196, 444, 445, 446, 447, 856, 857, 858, 859, 860, 861, 862, 863, 897, 898, 915, 916, 917, 906, 907, 908] (by decide +kernel) (by decide +kernel)
set_option maxRecDepth 20000 in
theorem gL_law_X5_back : GoodIn wsL_law (wsV RL 66 RX5 yX5_back wsX5_back) := goodIn_app (goodIn_of _ (by decide +kernel)) ggL_law_X5_back
set_option maxRecDepth 20000 in
theorem ggL_law_X6_back : GoodIn wsL_law wsX6_back := goodIn_r _ [467, 90, 415, 69, 264, 265, 266, 5, 267, 248, 227, 228, 229, 452, 453, 454, 455, 70, 283, 284, 285, 276, 277, 278, 279, 864, 865, 866, 867, 868, 869, 870, 871, 872, 873, 874, 875, 876, 877, 878, 879, 880, 881, 882, 883, 884, 885, 886, 887, 888, 889, 890, 891, 892, 893, 894, 895, 896] (by decide +kernel) (by decide +kernel)
set_option maxRecDepth 20000 in
theorem gL_law_X6_back : GoodIn wsL_law (wsV RL 69 RX6 yX6_back wsX6_back) := goodIn_app (goodIn_of _ (by decide +kernel)) ggL_law_X6_back
set_option maxRecDepth 20000 in
theorem ggL_law_X5_strongest : GoodIn wsL_law wsX5_strongest := goodIn_r _ [471, 16, 308, 311, 313, 176, 177, 15, 178, 144, 472, 473, 474, 25, 475, 51, 856, 857, 858, 859, 860, 861, 862, 863, 897, 898, 915, 916, 917, 906, 907, 908] (by decide +kernel) (by decide +kernel)
set_option maxRecDepth 20000 in
theorem gL_law_X5_strongest : GoodIn wsL_law (wsV RL 70 RX5 yX5_strongest wsX5_strongest) := goodIn_app (goodIn_of _ (by decide +kernel)) ggL_law_X5_strongest
set_option maxRecDepth 20000 in
theorem ggL_law_X6_strongest : GoodIn wsL_law wsX6_strongest := goodIn_r _ [479, 90, 68, 264, 265, 266, 5, 267, 248, 227, 228, 229, 393, 394, 395, 396, 864, 865, 866, 867, 868, 869, 870, 871, 872, 873, 874, 875, 876, 877, 878, 879, 880, 881, 882, 883, 884, 885, 886, 887, 888, 889, 890, 891, 892, 893, 894, 895, 896] (by decide +kernel) (by decide +kernel)
set_option maxRecDepth 20000 in
theorem gL_law_X6_strongest : GoodIn wsL_law (wsV RL 73 RX6 yX6_strongest wsX6_strongest) := goodIn_app (goodIn_of _ (by decide +kernel)) ggL_law_X6_strongest
set_option maxRecDepth 20000 in
theorem ggL_law_X5_harms : GoodIn wsL_law wsX5_harms := goodIn_r _ [483, 16, 308, 311, 313, 176, 177, 15, 178, 144, 484, 485, 2, 486, 420, 421, 422, 487, 488, 489, 25, 490, 405, 51, 406, 386, 387, 388, 856, 857, 858, 859, 860, 861, 862, 863, 897, 898, 915, 916, 917, 906, 907, 908] (by decide +kernel) (by decide +kernel)
set_option maxRecDepth 20000 in
theorem gL_law_X5_harms : GoodIn wsL_law (wsV RL 74 RX5 yX5_harms wsX5_harms) := goodIn_app (goodIn_of _ (by decide +kernel)) ggL_law_X5_harms
set_option maxRecDepth 20000 in
theorem ggL_law_X6_harms : GoodIn wsL_law wsX6_harms := goodIn_r _ [494, 90, 264, 265, 266, 5, 267, 248, 227, 228, 229, 495, 496, 497, 498, 415, 499, 500, 501, 502, 431, 432, 433, 434, 68, 393, 394, 395, 396, 864, 865, 866, 867, 868, 869, 870, 871, 872, 873, 874, 875, 876, 877, 878, 879, 880, 881, 882, 883, 884, 885, 886, 887, 888, 889, 890, 891, 892, 893, 894, 895, 896] (by decide +kernel) (by decide +kernel)
set_option maxRecDepth 20000 in
theorem gL_law_X6_harms : GoodIn wsL_law (wsV RL 77 RX6 yX6_harms wsX6_harms) := goodIn_app (goodIn_of _ (by decide +kernel)) ggL_law_X6_harms
set_option maxRecDepth 20000 in
theorem ggL_law_X5_first : GoodIn wsL_law wsX5_first := goodIn_r _ [506, 30, 22, 16, 484, 485, 2, 486, 420, 421, 422, 96, 97, 98, 99, 100, 101, 102, 103, 104, 105, 106, 107, 108, 109, 110, 32, 111, 112, 113, 114, 115, 116, 507, 508, 509, 510, 95, 207, 122, 123, 124, 63, 125, 126, 127, 128, 129, 313, 176, 177, 15, 178, 144, 511, 512, 513, 514, 137, 179, 180, 138, 139, 515, 516, 517, 21, 518, 519, 520, 521, 522, 58, 523, 524, 525, 154, 155, 25, 156, 51, 52, 157, 526, 527, 528, 529, 530, 531, 532, 533, 534, 535, 536, 187, 188, 189, 537, 538, 191, 192, 193, 194, 195, 196, 197, 198, 539, 488, 489, 490, 405, 406, 386, 387, 388, 856, 857, 858, 859, 860, 861, 862, 863, 909, 910, 911, 912, 913, 914, 897, 898, 899, 900, 901, 902, 903, 904, 905, 915, 916, 917, 906, 907, 908] (by decide +kernel) (by decide +kernel)
set_option maxRecDepth 20000 in
theorem gL_law_X5_first : GoodIn wsL_law (wsV RL 78 RX5 yX5_first wsX5_first) := goodIn_app (goodIn_of _ (by decide +kernel)) ggL_law_X5_first
set_option maxRecDepth 20000 in
theorem ggL_law_X6_first : GoodIn wsL_law wsX6_first := goodIn_r _ [543, 90, 87, 495, 496, 5, 497, 498, 415, 227, 228, 229, 544, 545, 546, 547, 88, 279, 226, 248, 218, 219, 220, 221, 86, 222, 223, 224, 225, 83, 244, 245, 246, 247, 249, 68, 76, 69, 77, 70, 78, 71, 79, 250, 251, 252, 253, 254, 255, 548, 549, 550, 551, 268, 269, 270, 271, 272, 273, 274, 275, 276, 277, 278, 280, 281, 282, 283, 284, 285, 499, 500, 501, 502, 431, 432, 433, 434, 393, 394, 395, 396, 290, 291, 292, 293, 864, 865, 866, 867, 868, 869, 870, 871, 872, 873, 874, 875, 876, 877, 878, 879, 880, 881, 882, 883, 884, 885, 886, 887, 888, 889, 890, 891, 892, 893, 894, 895, 896] (by decide +kernel) (by decide +kernel)
set_option maxRecDepth 20000 in
theorem gL_law_X6_first : GoodIn wsL_law (wsV RL 81 RX6 yX6_first wsX6_first) := goodIn_app (goodIn_of _ (by decide +kernel)) ggL_law_X6_first
set_option maxRecDepth 20000 in
theorem ggL_law_X5_week : GoodIn wsL_law wsX5_week := goodIn_r _ [555, 16, 298, 30, 22, 556, 557, 105, 106, 2, 107, 484, 485, 486, 420, 421, 422, 331, 332, 333, 96, 97, 98, 99, 100, 101, 102, 103, 104, 108, 109, 110, 32, 111, 112, 113, 114, 115, 116, 558, 559, 560, 95, 511, 512, 513, 514, 137, 122, 123, 124, 63, 125, 126, 127, 128, 129, 179, 180, 138, 139, 515, 516, 517, 21, 518, 519, 520, 521, 522, 58, 523, 524, 525, 154, 155, 25, 156, 51, 52, 157, 561, 562, 563, 564, 565, 566, 567, 568, 569, 530, 59, 532, 533, 534, 535, 536, 187, 188, 189, 537, 538, 191, 192, 193, 194, 195, 196, 197, 198, 539, 488, 489, 490, 405, 406, 386, 387, 388, 856, 857, 858, 859, 860, 861, 862, 863, 897, 898, 899, 900, 901, 902, 903, 904, 905, 909, 910, 911, 912, 913, 914, 915, 916, 917, 906, 907, 908] (by decide +kernel) (by decide +kernel)
set_option maxRecDepth 20000 in
theorem gL_law_X5_week : GoodIn wsL_law (wsV RL 82 RX5 yX5_week wsX5_week) := goodIn_app (goodIn_of _ (by decide +kernel)) ggL_law_X5_week
set_option maxRecDepth 20000 in
theorem ggL_law_X6_week : GoodIn wsL_law wsX6_week := goodIn_r _ [573, 90, 226, 248, 87, 227, 228, 5, 229, 495, 496, 497, 498, 415, 544, 545, 546, 547, 88, 279, 218, 219, 220, 221, 86, 222, 223, 224, 225, 83, 574, 575, 576, 244, 245, 246, 247, 249, 68, 76, 69, 77, 70, 78, 71, 79, 250, 251, 252, 253, 254, 255, 548, 549, 550, 551, 268, 269, 270, 271, 272, 273, 274, 275, 276, 277, 278, 280, 281, 282, 283, 284, 285, 499, 500, 501, 502, 431, 432, 433, 434, 393, 394, 395, 396, 290, 291, 292, 293, 864, 865, 866, 867, 868, 869, 870, 871, 872, 873, 874, 875, 876, 877, 878, 879, 880, 881, 882, 883, 884, 885, 886, 887, 888, 889, 890, 891, 892, 893, 894, 895, 896] (by decide +kernel) (by decide +kernel)
set_option maxRecDepth 20000 in
theorem gL_law_X6_week : GoodIn wsL_law (wsV RL 86 RX6 yX6_week wsX6_week) := goodIn_app (goodIn_of _ (by decide +kernel)) ggL_law_X6_week
set_option maxRecDepth 20000 in
theorem ggL_law_X5_bring : GoodIn wsL_law wsX5_bring := goodIn_r _ [580, 16, 308, 311, 312, 313, 176, 177, 15, 178, 144, 365, 366, 2, 367, 420, 421, 422, 581, 138, 139, 331, 332, 333, 582, 583, 584, 585, 26, 586, 587, 588, 589, 154, 155, 25, 156, 51, 52, 157, 590, 591, 592, 593, 594, 595, 596, 191, 192, 193, 194, 195, 196, 197, 198, 423, 424, 425, 426, 405, 406, 386, 387, 388, 597, 598, 599, 600, 856, 857, 858, 859, 860, 861, 862, 863, 897, 898, 915, 916, 917, 906, 907, 908] (by decide +kernel) (by decide +kernel)
set_option maxRecDepth 20000 in
theorem gL_law_X5_bring : GoodIn wsL_law (wsV RL 87 RX5 yX5_bring wsX5_bring) := goodIn_app (goodIn_of _ (by decide +kernel)) ggL_law_X5_bring
set_option maxRecDepth 20000 in
theorem ggL_law_X6_bring : GoodIn wsL_law wsX6_bring := goodIn_r _ [604, 90, 376, 415, 279, 264, 265, 266, 5, 267, 248, 227, 228, 229, 574, 575, 576, 286, 287, 288, 289, 69, 68, 70, 71, 605, 606, 607, 608, 268, 269, 270, 271, 272, 273, 274, 275, 276, 277, 278, 280, 281, 282, 283, 284, 285, 431, 432, 433, 434, 393, 394, 395, 396, 864, 865, 866, 867, 868, 869, 870, 871, 872, 873, 874, 875, 876, 877, 878, 879, 880, 881, 882, 883, 884, 885, 886, 887, 888, 889, 890, 891, 892, 893, 894, 895, 896] (by decide +kernel) (by decide +kernel)
set_option maxRecDepth 20000 in
theorem gL_law_X6_bring : GoodIn wsL_law (wsV RL 91 RX6 yX6_bring wsX6_bring) := goodIn_app (goodIn_of _ (by decide +kernel)) ggL_law_X6_bring
set_option maxRecDepth 20000 in
theorem ggL_law_X5_mayHave : GoodIn wsL_law wsX5_mayHave := goodIn_r _ [612, 16, 308, 311, 26, 313, 176, 177, 15, 178, 144, 581, 138, 2, 139, 331, 332, 333, 586, 587, 588, 613, 168, 169, 25, 170, 51, 52, 157, 590, 591, 592, 593, 594, 595, 596, 191, 192, 193, 194, 195, 196, 197, 198, 614, 615, 616, 617, 618, 619, 620, 600, 856, 857, 858, 859, 860, 861, 862, 863, 897, 898, 915, 916, 917, 906, 907, 908] (by decide +kernel) (by decide +kernel)
set_option maxRecDepth 20000 in
theorem gL_law_X5_mayHave : GoodIn wsL_law (wsV RL 92 RX5 yX5_mayHave wsX5_mayHave) := goodIn_app (goodIn_of _ (by decide +kernel)) ggL_law_X5_mayHave
set_option maxRecDepth 20000 in
theorem ggL_law_X6_mayHave : GoodIn wsL_law wsX6_mayHave := goodIn_r _ [624, 90, 376, 279, 68, 69, 264, 265, 266, 5, 267, 248, 227, 228, 229, 574, 575, 576, 260, 261, 262, 263, 605, 606, 607, 608, 268, 269, 270, 271, 272, 273, 274, 275, 70, 71, 276, 277, 278, 280, 281, 282, 283, 284, 285, 378, 379, 380, 625, 626, 627, 864, 865, 866, 867, 868, 869, 870, 871, 872, 873, 874, 875, 876, 877, 878, 879, 880, 881, 882, 883, 884, 885, 886, 887, 888, 889, 890, 891, 892, 893, 894, 895, 896] (by decide +kernel) (by decide +kernel)
set_option maxRecDepth 20000 in
theorem gL_law_X6_mayHave : GoodIn wsL_law (wsV RL 95 RX6 yX6_mayHave wsX6_mayHave) := goodIn_app (goodIn_of _ (by decide +kernel)) ggL_law_X6_mayHave
set_option maxRecDepth 20000 in
theorem ggL_law_X5_tells : GoodIn wsL_law wsX5_tells := goodIn_r _ [631, 16, 298, 331, 332, 2, 333, 632, 633, 634, 635, 28, 308, 311, 636, 637, 638, 639, 401, 402, 403, 25, 404, 405, 51, 406, 386, 387, 388, 856, 857, 858, 859, 860, 861, 862, 863, 897, 898, 915, 916, 917, 906, 907, 908] (by decide +kernel) (by decide +kernel)
set_option maxRecDepth 20000 in
theorem gL_law_X5_tells : GoodIn wsL_law (wsV RL 96 RX5 yX5_tells wsX5_tells) := goodIn_app (goodIn_of _ (by decide +kernel)) ggL_law_X5_tells
set_option maxRecDepth 20000 in
theorem ggL_law_X6_tells : GoodIn wsL_law wsX6_tells := goodIn_r _ [643, 90, 248, 227, 228, 5, 229, 644, 645, 646, 647, 411, 412, 413, 414, 415, 68, 393, 394, 395, 396, 864, 865, 866, 867, 868, 869, 870, 871, 872, 873, 874, 875, 876, 877, 878, 879, 880, 881, 882, 883, 884, 885, 886, 887, 888, 889, 890, 891, 892, 893, 894, 895, 896] (by decide +kernel) (by decide +kernel)
set_option maxRecDepth 20000 in
theorem gL_law_X6_tells : GoodIn wsL_law (wsV RL 99 RX6 yX6_tells wsX6_tells) := goodIn_app (goodIn_of _ (by decide +kernel)) ggL_law_X6_tells
set_option maxRecDepth 20000 in
theorem ggL_law_X5_lent : GoodIn wsL_law wsX5_lent := goodIn_r _ [651, 16, 652, 653, 30, 309, 310, 26, 308, 311, 313, 176, 177, 15, 178, 144, 314, 315, 316, 2, 317, 105, 106, 107, 108, 109, 110, 32, 111, 112, 113, 114, 115, 116, 589, 154, 155, 25, 156, 51, 52, 157, 654, 191, 192, 193, 194, 195, 196, 197, 198, 401, 402, 403, 404, 405, 406, 386, 387, 388, 613, 168, 169, 170, 856, 857, 858, 859, 860, 861, 862, 863, 909, 910, 911, 912, 913, 914, 897, 898, 915, 916, 917, 906, 907, 908] (by decide +kernel) (by decide +kernel)
set_option maxRecDepth 20000 in
theorem gL_law_X5_lent : GoodIn wsL_law (wsV RL 100 RX5 yX5_lent wsX5_lent) := goodIn_app (goodIn_of _ (by decide +kernel)) ggL_law_X5_lent
set_option maxRecDepth 20000 in
theorem ggL_law_X6_lent : GoodIn wsL_law wsX6_lent := goodIn_r _ [658, 90, 659, 85, 84, 264, 265, 266, 5, 267, 248, 227, 228, 229, 323, 324, 325, 326, 226, 83, 286, 287, 288, 289, 69, 68, 70, 71, 272, 273, 274, 275, 276, 277, 278, 279, 280, 281, 282, 283, 284, 285, 411, 412, 413, 414, 415, 393, 394, 395, 396, 260, 261, 262, 263, 864, 865, 866, 867, 868, 869, 870, 871, 872, 873, 874, 875, 876, 877, 878, 879, 880, 881, 882, 883, 884, 885, 886, 887, 888, 889, 890, 891, 892, 893, 894, 895, 896] (by decide +kernel) (by decide +kernel)
set_option maxRecDepth 20000 in
theorem gL_law_X6_lent : GoodIn wsL_law (wsV RL 103 RX6 yX6_lent wsX6_lent) := goodIn_app (goodIn_of _ (by decide +kernel)) ggL_law_X6_lent
set_option maxRecDepth 20000 in
theorem ggL_law_X5_gone : GoodIn wsL_law wsX5_gone := goodIn_r _ [663, 460, 447, 664, 179, 2, 180, 581, 138, 139, 461, 462, 463, 665, 195, 196] (by decide +kernel) (by decide +kernel)
set_option maxRecDepth 20000 in
theorem gL_law_X5_gone : GoodIn wsL_law (wsV RL 104 RX5 yX5_gone wsX5_gone) := goodIn_app (goodIn_of _ (by decide +kernel)) ggL_law_X5_gone
set_option maxRecDepth 20000 in
theorem ggL_law_X6_gone : GoodIn wsL_law wsX6_gone := goodIn_r _ [669, 90, 226, 279, 415, 227, 228, 5, 229, 283, 284, 285, 864, 865, 866, 867, 868, 869, 870, 871, 872, 873, 874, 875, 876, 877, 878, 879, 880, 881, 882, 883, 884, 885, 886, 887, 888, 889, 890, 891, 892, 893, 894, 895, 896] (by decide +kernel) (by decide +kernel)
set_option maxRecDepth 20000 in
theorem gL_law_X6_gone : GoodIn wsL_law (wsV RL 107 RX6 yX6_gone wsX6_gone) := goodIn_app (goodIn_of _ (by decide +kernel)) ggL_law_X6_gone
set_option maxRecDepth 20000 in
theorem ggL_law_X5_seeded : GoodIn wsL_law wsX5_seeded := goodIn_r _ [673, 26, 365, 366, 2, 367, 613, 168, 169, 25, 170, 51, 52, 157, 674, 675, 676, 677, 678, 679, 680, 681, 682, 654, 191, 192, 193, 194, 195, 196, 197, 198, 401, 402, 403, 404, 405, 406, 386, 387, 388, 856, 857, 858, 859, 860, 861, 862, 863, 906, 907, 908] (by decide +kernel) (by decide +kernel)
set_option maxRecDepth 20000 in
theorem gL_law_X5_seeded : GoodIn wsL_law (wsV RL 108 RX5 yX5_seeded wsX5_seeded) := goodIn_app (goodIn_of _ (by decide +kernel)) ggL_law_X5_seeded
set_option maxRecDepth 20000 in
theorem ggL_law_X6_seeded : GoodIn wsL_law wsX6_seeded := goodIn_r _ [686, 90, 687, 376, 688, 227, 228, 5, 229, 260, 261, 262, 263, 69, 68, 689, 690, 691, 692, 693, 694, 695, 268, 269, 270, 271, 272, 273, 274, 275, 70, 71, 276, 277, 278, 279, 280, 281, 282, 283, 284, 285, 411, 412, 413, 414, 415, 393, 394, 395, 396, 864, 865, 866, 867, 868, 869, 870, 871, 872, 873, 874, 875, 876, 877, 878, 879, 880, 881, 882, 883, 884, 885, 886, 887, 888, 889, 890, 891, 892, 893, 894, 895, 896] (by decide +kernel) (by decide +kernel)
set_option maxRecDepth 20000 in
theorem gL_law_X6_seeded : GoodIn wsL_law (wsV RL 111 RX6 yX6_seeded wsX6_seeded) := goodIn_app (goodIn_of _ (by decide +kernel)) ggL_law_X6_seeded
set_option maxRecDepth 20000 in
theorem ggL_law_X5_judge : GoodIn wsL_law wsX5_judge := goodIn_r _ [699, 30, 16, 298, 95, 700, 701, 638, 702, 703, 308, 311, 101, 102, 103, 2, 104, 105, 106, 107, 108, 109, 110, 32, 111, 112, 113, 114, 115, 116, 704, 705, 706, 707, 708, 709, 401, 402, 403, 25, 404, 405, 51, 406, 386, 387, 388, 856, 857, 858, 859, 860, 861, 862, 863, 897, 898, 909, 910, 911, 912, 913, 914, 915, 916, 917, 906, 907, 908] (by decide +kernel) (by decide +kernel)
set_option maxRecDepth 20000 in
theorem gL_law_X5_judge : GoodIn wsL_law (wsV RL 112 RX5 yX5_judge wsX5_judge) := goodIn_app (goodIn_of _ (by decide +kernel)) ggL_law_X5_judge
set_option maxRecDepth 20000 in
theorem ggL_law_X6_judge : GoodIn wsL_law wsX6_judge := goodIn_r _ [713, 90, 248, 87, 88, 222, 223, 224, 5, 225, 226, 83, 227, 228, 229, 714, 715, 716, 717, 86, 718, 719, 720, 411, 412, 413, 414, 415, 68, 393, 394, 395, 396, 864, 865, 866, 867, 868, 869, 870, 871, 872, 873, 874, 875, 876, 877, 878, 879, 880, 881, 882, 883, 884, 885, 886, 887, 888, 889, 890, 891, 892, 893, 894, 895, 896] (by decide +kernel) (by decide +kernel)
set_option maxRecDepth 20000 in
theorem gL_law_X6_judge : GoodIn wsL_law (wsV RL 115 RX6 yX6_judge wsX6_judge) := goodIn_app (goodIn_of _ (by decide +kernel)) ggL_law_X6_judge
set_option maxRecDepth 20000 in
theorem ggL_law_X5_image : GoodIn wsL_law wsX5_image := goodIn_r _ [724, 18, 16, 725, 298, 140, 141, 142, 15, 143, 144, 38, 145, 146, 147, 40, 148, 45, 46, 149, 150, 151, 152, 47, 153, 154, 155, 25, 156, 51, 52, 157, 856, 857, 858, 859, 860, 861, 862, 863, 897, 898, 915, 916, 917, 906, 907, 908] (by decide +kernel) (by decide +kernel)
set_option maxRecDepth 20000 in
theorem gL_law_X5_image : GoodIn wsL_law (wsV RL 116 RX5 yX5_image wsX5_image) := goodIn_app (goodIn_of _ (by decide +kernel)) ggL_law_X5_image
set_option maxRecDepth 20000 in
theorem ggL_law_X6_image : GoodIn wsL_law wsX6_image := goodIn_r _ [729, 90, 730, 248, 731, 68, 72, 69, 73, 70, 74, 71, 75, 250, 251, 5, 252, 253, 254, 255, 864, 865, 866, 867, 868, 869, 870, 871, 872, 873, 874, 875, 876, 877, 878, 879, 880, 881, 882, 883, 884, 885, 886, 887, 888, 889, 890, 891, 892, 893, 894, 895, 896] (by decide +kernel) (by decide +kernel)
set_option maxRecDepth 20000 in
theorem gL_law_X6_image : GoodIn wsL_law (wsV RL 119 RX6 yX6_image wsX6_image) := goodIn_app (goodIn_of _ (by decide +kernel)) ggL_law_X6_image
set_option maxRecDepth 20000 in
theorem ggL_law_X5_restore : GoodIn wsL_law wsX5_restore := goodIn_r _ [735, 725, 16, 18, 298, 140, 141, 142, 15, 143, 144, 38, 145, 146, 147, 40, 148, 45, 46, 149, 150, 151, 152, 47, 153, 154, 155, 25, 156, 51, 52, 157, 856, 857, 858, 859, 860, 861, 862, 863, 897, 898, 915, 916, 917, 906, 907, 908] (by decide +kernel) (by decide +kernel)
set_option maxRecDepth 20000 in
theorem gL_law_X5_restore : GoodIn wsL_law (wsV RL 120 RX5 yX5_restore wsX5_restore) := goodIn_app (goodIn_of _ (by decide +kernel)) ggL_law_X5_restore
set_option maxRecDepth 20000 in
theorem ggL_law_X6_restore : GoodIn wsL_law wsX6_restore := goodIn_r _ [739, 90, 730, 731, 248, 72, 68, 73, 69, 74, 70, 75, 71, 250, 251, 5, 252, 253, 254, 255, 864, 865, 866, 867, 868, 869, 870, 871, 872, 873, 874, 875, 876, 877, 878, 879, 880, 881, 882, 883, 884, 885, 886, 887, 888, 889, 890, 891, 892, 893, 894, 895, 896] (by decide +kernel) (by decide +kernel)
set_option maxRecDepth 20000 in
theorem gL_law_X6_restore : GoodIn wsL_law (wsV RL 123 RX6 yX6_restore wsX6_restore) := goodIn_app (goodIn_of _ (by decide +kernel)) ggL_law_X6_restore
set_option maxRecDepth 20000 in
theorem ggL_law_X5_count : GoodIn wsL_law wsX5_count := goodIn_r _ [743, 16, 298, 308, 311, 312, 385, 386, 387, 25, 388, 51, 744, 745, 746, 40, 747, 45, 185, 46, 856, 857, 858, 859, 860, 861, 862, 863, 897, 898, 915, 916, 917, 906, 907, 908] (by decide +kernel) (by decide +kernel)
set_option maxRecDepth 20000 in
theorem gL_law_X5_count : GoodIn wsL_law (wsV RL 124 RX5 yX5_count wsX5_count) := goodIn_app (goodIn_of _ (by decide +kernel)) ggL_law_X5_count
set_option maxRecDepth 20000 in
theorem ggL_law_X6_count : GoodIn wsL_law wsX6_count := goodIn_r _ [751, 90, 248, 69, 70, 393, 394, 395, 5, 396, 68, 864, 865, 866, 867, 868, 869, 870, 871, 872, 873, 874, 875, 876, 877, 878, 879, 880, 881, 882, 883, 884, 885, 886, 887, 888, 889, 890, 891, 892, 893, 894, 895, 896] (by decide +kernel) (by decide +kernel)
set_option maxRecDepth 20000 in
theorem gL_law_X6_count : GoodIn wsL_law (wsV RL 127 RX6 yX6_count wsX6_count) := goodIn_app (goodIn_of _ (by decide +kernel)) ggL_law_X6_count
set_option maxRecDepth 20000 in
theorem ggL_law_X5_keep : GoodIn wsL_law wsX5_keep := goodIn_r _ [755, 30, 105, 106, 2, 107, 331, 332, 333, 756, 757, 758, 32, 759, 112, 664, 179, 180, 581, 138, 139, 760, 761, 762, 763, 764, 765, 856, 857, 858, 859, 860, 861, 862, 863, 909, 910, 911, 912, 913, 914] (by decide +kernel) (by decide +kernel)
set_option maxRecDepth 20000 in
theorem gL_law_X5_keep : GoodIn wsL_law (wsV RL 128 RX5 yX5_keep wsX5_keep) := goodIn_app (goodIn_of _ (by decide +kernel)) ggL_law_X5_keep
set_option maxRecDepth 20000 in
theorem ggL_law_X6_keep : GoodIn wsL_law wsX6_keep := goodIn_r _ [769, 90, 226, 279, 83, 84, 85, 227, 228, 5, 229, 864, 865, 866, 867, 868, 869, 870, 871, 872, 873, 874, 875, 876, 877, 878, 879, 880, 881, 882, 883, 884, 885, 886, 887, 888, 889, 890, 891, 892, 893, 894, 895, 896] (by decide +kernel) (by decide +kernel)
set_option maxRecDepth 20000 in
theorem gL_law_X6_keep : GoodIn wsL_law (wsV RL 131 RX6 yX6_keep wsX6_keep) := goodIn_app (goodIn_of _ (by decide +kernel)) ggL_law_X6_keep
set_option maxRecDepth 20000 in
theorem ggL_law_X5_row : GoodIn wsL_law wsX5_row := goodIn_r _ [773, 30, 105, 106, 2, 107, 774, 775, 776, 32, 777, 112, 708, 129, 63, 856, 857, 858, 859, 860, 861, 862, 863, 909, 910, 911, 912, 913, 914] (by decide +kernel) (by decide +kernel)
set_option maxRecDepth 20000 in
theorem gL_law_X5_row : GoodIn wsL_law (wsV RL 132 RX5 yX5_row wsX5_row) := goodIn_app (goodIn_of _ (by decide +kernel)) ggL_law_X5_row
set_option maxRecDepth 20000 in
theorem ggL_law_X6_row : GoodIn wsL_law wsX6_row := goodIn_r _ [781, 90, 226, 782, 83, 86, 87, 88, 227, 228, 5, 229, 864, 865, 866, 867, 868, 869, 870, 871, 872, 873, 874, 875, 876, 877, 878, 879, 880, 881, 882, 883, 884, 885, 886, 887, 888, 889, 890, 891, 892, 893, 894, 895, 896] (by decide +kernel) (by decide +kernel)
set_option maxRecDepth 20000 in
theorem gL_law_X6_row : GoodIn wsL_law (wsV RL 135 RX6 yX6_row wsX6_row) := goodIn_app (goodIn_of _ (by decide +kernel)) ggL_law_X6_row
set_option maxRecDepth 20000 in
theorem ggL_law_X5_put : GoodIn wsL_law wsX5_put := goodIn_r _ [786, 30, 703, 101, 102, 103, 2, 104, 105, 106, 107, 108, 109, 110, 32, 111, 112, 113, 114, 115, 116, 787, 126, 127, 128, 129, 788, 789, 790, 791, 708, 856, 857, 858, 859, 860, 861, 862, 863, 909, 910, 911, 912, 913, 914] (by decide +kernel) (by decide +kernel)
set_option maxRecDepth 20000 in
theorem gL_law_X5_put : GoodIn wsL_law (wsV RL 136 RX5 yX5_put wsX5_put) := goodIn_app (goodIn_of _ (by decide +kernel)) ggL_law_X5_put
set_option maxRecDepth 20000 in
theorem ggL_law_X6_put : GoodIn wsL_law wsX6_put := goodIn_r _ [795, 90, 87, 88, 86, 222, 223, 224, 5, 225, 226, 83, 227, 228, 229, 796, 797, 798, 864, 865, 866, 867, 868, 869, 870, 871, 872, 873, 874, 875, 876, 877, 878, 879, 880, 881, 882, 883, 884, 885, 886, 887, 888, 889, 890, 891, 892, 893, 894, 895, 896] (by decide +kernel) (by decide +kernel)
set_option maxRecDepth 20000 in
theorem gL_law_X6_put : GoodIn wsL_law (wsV RL 139 RX6 yX6_put wsX6_put) := goodIn_app (goodIn_of _ (by decide +kernel)) ggL_law_X6_put
set_option maxRecDepth 20000 in
theorem ggL_law_L_element : GoodIn wsL_law wsL_element := goodIn_ca (goodIn_ca (goodIn_r _ [802, 803, 804, 805, 806, 807, 2, 808, 809, 810, 811, 812, 30, 703, 105, 106, 107, 113, 114, 115, 32, 116, 112, 787, 126, 127, 128, 129, 856, 857, 858, 859, 860, 861, 862, 863, 909, 910, 911, 912, 913, 914] (by decide +kernel) (by decide +kernel)) (goodIn_sub (fun _ h => List.mem_append_left _ (List.mem_append_right _ h)) (by decide +kernel))) (goodIn_sub (fun _ h => List.mem_append_right _ h) (by decide +kernel))
set_option maxRecDepth 20000 in
theorem gL_law_L_element : GoodIn wsL_law (va_wsS RL 140 yL_element wsL_element) := goodIn_app (goodIn_of _ (by decide +kernel)) ggL_law_L_element
set_option maxRecDepth 20000 in
theorem ggL_law_X6_element : GoodIn wsL_law wsX6_element := goodIn_r _ [816, 87, 90, 88, 222, 223, 224, 5, 225, 226, 83, 227, 228, 229, 864, 865, 866, 867, 868, 869, 870, 871, 872, 873, 874, 875, 876, 877, 878, 879, 880, 881, 882, 883, 884, 885, 886, 887, 888, 889, 890, 891, 892, 893, 894, 895, 896] (by decide +kernel) (by decide +kernel)
set_option maxRecDepth 20000 in
theorem gL_law_X6_element : GoodIn wsL_law (wsV RL 145 RX6 yX6_element wsX6_element) := goodIn_app (goodIn_of _ (by decide +kernel)) ggL_law_X6_element
set_option maxRecDepth 20000 in
theorem ggL_law_X6_thrown : GoodIn wsL_law wsX6_thrown := goodIn_r _ [820, 90, 864, 865, 866, 867, 868, 869, 870, 871, 872, 873, 874, 875, 876, 877, 878, 879, 880, 881, 882, 883, 884, 885, 886, 887, 888, 889, 890, 891, 892, 893, 894, 895, 896] (by decide +kernel) (by decide +kernel)
set_option maxRecDepth 20000 in
theorem gL_law_X6_thrown : GoodIn wsL_law (wsV RL 146 RX6 yX6_thrown wsX6_thrown) := goodIn_app (goodIn_of _ (by decide +kernel)) ggL_law_X6_thrown
set_option maxRecDepth 20000 in
theorem ggL_law_X5_copy : GoodIn wsL_law wsX5_copy := goodIn_r _ [824, 30, 100, 703, 825, 150, 151, 152, 105, 106, 2, 107, 108, 109, 110, 32, 111, 112, 113, 114, 115, 116, 826, 827, 828, 829, 129, 856, 857, 858, 859, 860, 861, 862, 863, 909, 910, 911, 912, 913, 914] (by decide +kernel) (by decide +kernel)
set_option maxRecDepth 20000 in
theorem gL_law_X5_copy : GoodIn wsL_law (wsV RL 149 RX5 yX5_copy wsX5_copy) := goodIn_app (goodIn_of _ (by decide +kernel)) ggL_law_X5_copy
set_option maxRecDepth 20000 in
theorem ggL_law_X6_copy : GoodIn wsL_law wsX6_copy := goodIn_r _ [833, 90, 226, 83, 86, 87, 89, 88, 227, 228, 5, 229, 864, 865, 866, 867, 868, 869, 870, 871, 872, 873, 874, 875, 876, 877, 878, 879, 880, 881, 882, 883, 884, 885, 886, 887, 888, 889, 890, 891, 892, 893, 894, 895, 896] (by decide +kernel) (by decide +kernel)
set_option maxRecDepth 20000 in
theorem gL_law_X6_copy : GoodIn wsL_law (wsV RL 152 RX6 yX6_copy wsX6_copy) := goodIn_app (goodIn_of _ (by decide +kernel)) ggL_law_X6_copy
set_option maxRecDepth 20000 in
theorem ggL_law_X5_price : GoodIn wsL_law wsX5_price := goodIn_r _ [837, 30, 309, 310, 314, 315, 316, 2, 317, 105, 106, 107, 108, 109, 110, 32, 111, 112, 113, 114, 115, 116, 838, 839, 840, 856, 857, 858, 859, 860, 861, 862, 863, 909, 910, 911, 912, 913, 914] (by decide +kernel) (by decide +kernel)
set_option maxRecDepth 20000 in
theorem gL_law_X5_price : GoodIn wsL_law (wsV RL 153 RX5 yX5_price wsX5_price) := goodIn_app (goodIn_of _ (by decide +kernel)) ggL_law_X5_price
set_option maxRecDepth 20000 in
theorem ggL_law_X6_price : GoodIn wsL_law wsX6_price := goodIn_r _ [844, 90, 84, 85, 323, 324, 325, 5, 326, 226, 83, 227, 228, 229, 845, 846, 847, 864, 865, 866, 867, 868, 869, 870, 871, 872, 873, 874, 875, 876, 877, 878, 879, 880, 881, 882, 883, 884, 885, 886, 887, 888, 889, 890, 891, 892, 893, 894, 895, 896] (by decide +kernel) (by decide +kernel)
set_option maxRecDepth 20000 in
theorem gL_law_X6_price : GoodIn wsL_law (wsV RL 156 RX6 yX6_price wsX6_price) := goodIn_app (goodIn_of _ (by decide +kernel)) ggL_law_X6_price
set_option maxRecDepth 20000 in
theorem ggL_law_X5_toss : GoodIn wsL_law wsX5_toss := goodIn_r _ [851, 30, 309, 310, 314, 315, 316, 2, 317, 105, 106, 107, 108, 109, 110, 32, 111, 112, 113, 114, 115, 116, 838, 839, 840, 856, 857, 858, 859, 860, 861, 862, 863, 909, 910, 911, 912, 913, 914] (by decide +kernel) (by decide +kernel)
set_option maxRecDepth 20000 in
theorem gL_law_X5_toss : GoodIn wsL_law (wsV RL 157 RX5 yX5_toss wsX5_toss) := goodIn_app (goodIn_of _ (by decide +kernel)) ggL_law_X5_toss
set_option maxRecDepth 20000 in
theorem ggL_law_X6_toss : GoodIn wsL_law wsX6_toss := goodIn_r _ [855, 90, 84, 85, 323, 324, 325, 5, 326, 226, 83, 227, 228, 229, 845, 846, 847, 864, 865, 866, 867, 868, 869, 870, 871, 872, 873, 874, 875, 876, 877, 878, 879, 880, 881, 882, 883, 884, 885, 886, 887, 888, 889, 890, 891, 892, 893, 894, 895, 896] (by decide +kernel) (by decide +kernel)
set_option maxRecDepth 20000 in
theorem gL_law_X6_toss : GoodIn wsL_law (wsV RL 160 RX6 yX6_toss wsX6_toss) := goodIn_app (goodIn_of _ (by decide +kernel)) ggL_law_X6_toss
abbrev vwCl : List vw_C := [(RX0, TX0, 3), (RX1, TX1, 2), (RX2, TX2, 7), (RX3, TX3, 3), (RX4, TX4, 6), (RX5, TX5, 8), (RX6, TX6, 33)]
