section
-- ===== PART A: goes FIRST, ahead of the names: the tables' words, and 'selects' of the private methods out of them =====
/-- a private method of a class that the tables say can be made, by its rows of tables_1 -/
def lw_okq (q : MethodName × Nat) : Prop := (q.1.cls ≠ "java/lang/invoke/MethodHandle" ∧ q.1.cls ≠ "java/lang/invoke/VarHandle") ∧ Cond.instantiable q.1.cls q.2 ∈ tables_1 ∧ Cond.privateMethod q.1 ∈ tables_1 ∧ Cond.instanceMethod q.1 ∈ tables_1
theorem lw_p0 : lw_okq (⟨"java/lang/Throwable", "fillInStackTrace", "(I)Ljava/lang/Throwable;"⟩, 6) := ⟨⟨by decide +kernel, by decide +kernel⟩, List.mem_of_getElem? (i := 254) (by decide +kernel), List.mem_of_getElem? (i := 252) (by decide +kernel), List.mem_of_getElem? (i := 253) (by decide +kernel)⟩
theorem lw_p1 : lw_okq (⟨"Dotpress", "typedKey", "()I"⟩, 7) := ⟨⟨by decide +kernel, by decide +kernel⟩, List.mem_of_getElem? (i := 22) (by decide +kernel), List.mem_of_getElem? (i := 313) (by decide +kernel), List.mem_of_getElem? (i := 314) (by decide +kernel)⟩
theorem lw_p2 : lw_okq (⟨"Dotpress", "translateTexts", "()I"⟩, 7) := ⟨⟨by decide +kernel, by decide +kernel⟩, List.mem_of_getElem? (i := 22) (by decide +kernel), List.mem_of_getElem? (i := 370) (by decide +kernel), List.mem_of_getElem? (i := 371) (by decide +kernel)⟩
theorem lw_p3 : lw_okq (⟨"Dotpress$RuleBook", "addCells", "(LDotpress$Row;IIILDotpress$Pieces;)I"⟩, 5) := ⟨⟨by decide +kernel, by decide +kernel⟩, List.mem_of_getElem? (i := 44) (by decide +kernel), List.mem_of_getElem? (i := 401) (by decide +kernel), List.mem_of_getElem? (i := 402) (by decide +kernel)⟩
theorem lw_p4 : lw_okq (⟨"Dotpress$Text", "unmark", "(I)V"⟩, 7) := ⟨⟨by decide +kernel, by decide +kernel⟩, List.mem_of_getElem? (i := 427) (by decide +kernel), List.mem_of_getElem? (i := 425) (by decide +kernel), List.mem_of_getElem? (i := 426) (by decide +kernel)⟩
theorem lw_p5 : lw_okq (⟨"Dotpress$Text", "beginWord", "(II)V"⟩, 7) := ⟨⟨by decide +kernel, by decide +kernel⟩, List.mem_of_getElem? (i := 427) (by decide +kernel), List.mem_of_getElem? (i := 454) (by decide +kernel), List.mem_of_getElem? (i := 455) (by decide +kernel)⟩
theorem lw_p6 : lw_okq (⟨"Dotpress", "textNumbered", "(I)LDotpress$Text;"⟩, 7) := ⟨⟨by decide +kernel, by decide +kernel⟩, List.mem_of_getElem? (i := 22) (by decide +kernel), List.mem_of_getElem? (i := 659) (by decide +kernel), List.mem_of_getElem? (i := 660) (by decide +kernel)⟩
theorem lw_p7 : lw_okq (⟨"Dotpress", "textWithWord", "(II)LDotpress$Text;"⟩, 7) := ⟨⟨by decide +kernel, by decide +kernel⟩, List.mem_of_getElem? (i := 22) (by decide +kernel), List.mem_of_getElem? (i := 671) (by decide +kernel), List.mem_of_getElem? (i := 672) (by decide +kernel)⟩
theorem lw_p8 : lw_okq (⟨"Dotpress", "planLine", "(LDotpress$Text;I)V"⟩, 7) := ⟨⟨by decide +kernel, by decide +kernel⟩, List.mem_of_getElem? (i := 22) (by decide +kernel), List.mem_of_getElem? (i := 747) (by decide +kernel), List.mem_of_getElem? (i := 748) (by decide +kernel)⟩
theorem lw_p9 : lw_okq (⟨"DotpressModel", "goesOn", "(I)Z"⟩, 28) := ⟨⟨by decide +kernel, by decide +kernel⟩, List.mem_of_getElem? (i := 871) (by decide +kernel), List.mem_of_getElem? (i := 973) (by decide +kernel), List.mem_of_getElem? (i := 974) (by decide +kernel)⟩
theorem lw_p10 : lw_okq (⟨"DotpressModel", "ruleLetters", "()I"⟩, 28) := ⟨⟨by decide +kernel, by decide +kernel⟩, List.mem_of_getElem? (i := 871) (by decide +kernel), List.mem_of_getElem? (i := 985) (by decide +kernel), List.mem_of_getElem? (i := 986) (by decide +kernel)⟩
theorem lw_p11 : lw_okq (⟨"DotpressModel", "hasBlank", "()Z"⟩, 28) := ⟨⟨by decide +kernel, by decide +kernel⟩, List.mem_of_getElem? (i := 871) (by decide +kernel), List.mem_of_getElem? (i := 989) (by decide +kernel), List.mem_of_getElem? (i := 990) (by decide +kernel)⟩
theorem lw_p12 : lw_okq (⟨"DotpressModel", "ruleOf", "(I)I"⟩, 28) := ⟨⟨by decide +kernel, by decide +kernel⟩, List.mem_of_getElem? (i := 871) (by decide +kernel), List.mem_of_getElem? (i := 996) (by decide +kernel), List.mem_of_getElem? (i := 997) (by decide +kernel)⟩
theorem lw_p13 : lw_okq (⟨"DotpressModel", "keepsCells", "()V"⟩, 28) := ⟨⟨by decide +kernel, by decide +kernel⟩, List.mem_of_getElem? (i := 871) (by decide +kernel), List.mem_of_getElem? (i := 1000) (by decide +kernel), List.mem_of_getElem? (i := 1001) (by decide +kernel)⟩
theorem lw_p14 : lw_okq (⟨"DotpressModel", "wordsOf", "(I)I"⟩, 28) := ⟨⟨by decide +kernel, by decide +kernel⟩, List.mem_of_getElem? (i := 871) (by decide +kernel), List.mem_of_getElem? (i := 1004) (by decide +kernel), List.mem_of_getElem? (i := 1005) (by decide +kernel)⟩
theorem lw_p15 : lw_okq (⟨"DotpressModel", "isBegin", "(II)Z"⟩, 28) := ⟨⟨by decide +kernel, by decide +kernel⟩, List.mem_of_getElem? (i := 871) (by decide +kernel), List.mem_of_getElem? (i := 1008) (by decide +kernel), List.mem_of_getElem? (i := 1009) (by decide +kernel)⟩
def lw_privs_1 : List (MethodName × Nat) := [(⟨"java/lang/Throwable", "fillInStackTrace", "(I)Ljava/lang/Throwable;"⟩, 6), (⟨"Dotpress", "typedKey", "()I"⟩, 7), (⟨"Dotpress", "translateTexts", "()I"⟩, 7), (⟨"Dotpress$RuleBook", "addCells", "(LDotpress$Row;IIILDotpress$Pieces;)I"⟩, 5), (⟨"Dotpress$Text", "unmark", "(I)V"⟩, 7), (⟨"Dotpress$Text", "beginWord", "(II)V"⟩, 7), (⟨"Dotpress", "textNumbered", "(I)LDotpress$Text;"⟩, 7), (⟨"Dotpress", "textWithWord", "(II)LDotpress$Text;"⟩, 7), (⟨"Dotpress", "planLine", "(LDotpress$Text;I)V"⟩, 7), (⟨"DotpressModel", "goesOn", "(I)Z"⟩, 28), (⟨"DotpressModel", "ruleLetters", "()I"⟩, 28), (⟨"DotpressModel", "hasBlank", "()Z"⟩, 28), (⟨"DotpressModel", "ruleOf", "(I)I"⟩, 28), (⟨"DotpressModel", "keepsCells", "()V"⟩, 28), (⟨"DotpressModel", "wordsOf", "(I)I"⟩, 28), (⟨"DotpressModel", "isBegin", "(II)Z"⟩, 28)]
theorem lw_r1 : ∀ q ∈ lw_privs_1, lw_okq q := List.forall_mem_cons.mpr ⟨lw_p0, List.forall_mem_cons.mpr ⟨lw_p1, List.forall_mem_cons.mpr ⟨lw_p2, List.forall_mem_cons.mpr ⟨lw_p3, List.forall_mem_cons.mpr ⟨lw_p4, List.forall_mem_cons.mpr ⟨lw_p5, List.forall_mem_cons.mpr ⟨lw_p6, List.forall_mem_cons.mpr ⟨lw_p7, List.forall_mem_cons.mpr ⟨lw_p8, List.forall_mem_cons.mpr ⟨lw_p9, List.forall_mem_cons.mpr ⟨lw_p10, List.forall_mem_cons.mpr ⟨lw_p11, List.forall_mem_cons.mpr ⟨lw_p12, List.forall_mem_cons.mpr ⟨lw_p13, List.forall_mem_cons.mpr ⟨lw_p14, List.forall_mem_cons.mpr ⟨lw_p15, fun _ h => absurd h List.not_mem_nil⟩⟩⟩⟩⟩⟩⟩⟩⟩⟩⟩⟩⟩⟩⟩⟩
theorem lw_p16 : lw_okq (⟨"DotpressModel", "translates", "(II)V"⟩, 28) := ⟨⟨by decide +kernel, by decide +kernel⟩, List.mem_of_getElem? (i := 871) (by decide +kernel), List.mem_of_getElem? (i := 1012) (by decide +kernel), List.mem_of_getElem? (i := 1013) (by decide +kernel)⟩
theorem lw_p17 : lw_okq (⟨"DotpressModel", "beginOf", "(II)I"⟩, 28) := ⟨⟨by decide +kernel, by decide +kernel⟩, List.mem_of_getElem? (i := 871) (by decide +kernel), List.mem_of_getElem? (i := 1016) (by decide +kernel), List.mem_of_getElem? (i := 1017) (by decide +kernel)⟩
theorem lw_p18 : lw_okq (⟨"DotpressModel", "letterCount", "(II)I"⟩, 28) := ⟨⟨by decide +kernel, by decide +kernel⟩, List.mem_of_getElem? (i := 871) (by decide +kernel), List.mem_of_getElem? (i := 1020) (by decide +kernel), List.mem_of_getElem? (i := 1021) (by decide +kernel)⟩
theorem lw_p19 : lw_okq (⟨"DotpressModel", "isException", "(II)Z"⟩, 28) := ⟨⟨by decide +kernel, by decide +kernel⟩, List.mem_of_getElem? (i := 871) (by decide +kernel), List.mem_of_getElem? (i := 1024) (by decide +kernel), List.mem_of_getElem? (i := 1025) (by decide +kernel)⟩
theorem lw_p20 : lw_okq (⟨"DotpressModel", "isThis", "(III)Z"⟩, 28) := ⟨⟨by decide +kernel, by decide +kernel⟩, List.mem_of_getElem? (i := 871) (by decide +kernel), List.mem_of_getElem? (i := 1028) (by decide +kernel), List.mem_of_getElem? (i := 1029) (by decide +kernel)⟩
theorem lw_p21 : lw_okq (⟨"DotpressModel", "longest", "(IIII)I"⟩, 28) := ⟨⟨by decide +kernel, by decide +kernel⟩, List.mem_of_getElem? (i := 871) (by decide +kernel), List.mem_of_getElem? (i := 1032) (by decide +kernel), List.mem_of_getElem? (i := 1033) (by decide +kernel)⟩
theorem lw_p22 : lw_okq (⟨"DotpressModel", "lengthOf", "(I)I"⟩, 28) := ⟨⟨by decide +kernel, by decide +kernel⟩, List.mem_of_getElem? (i := 871) (by decide +kernel), List.mem_of_getElem? (i := 1036) (by decide +kernel), List.mem_of_getElem? (i := 1037) (by decide +kernel)⟩
theorem lw_p23 : lw_okq (⟨"DotpressModel", "letterOf", "(II)I"⟩, 28) := ⟨⟨by decide +kernel, by decide +kernel⟩, List.mem_of_getElem? (i := 871) (by decide +kernel), List.mem_of_getElem? (i := 1040) (by decide +kernel), List.mem_of_getElem? (i := 1041) (by decide +kernel)⟩
theorem lw_p24 : lw_okq (⟨"DotpressModel", "stands", "(III)Z"⟩, 28) := ⟨⟨by decide +kernel, by decide +kernel⟩, List.mem_of_getElem? (i := 871) (by decide +kernel), List.mem_of_getElem? (i := 1047) (by decide +kernel), List.mem_of_getElem? (i := 1048) (by decide +kernel)⟩
theorem lw_p25 : lw_okq (⟨"DotpressModel", "moves", "(II)V"⟩, 28) := ⟨⟨by decide +kernel, by decide +kernel⟩, List.mem_of_getElem? (i := 871) (by decide +kernel), List.mem_of_getElem? (i := 1051) (by decide +kernel), List.mem_of_getElem? (i := 1052) (by decide +kernel)⟩
theorem lw_p26 : lw_okq (⟨"DotpressModel", "puts", "(IIIII)V"⟩, 28) := ⟨⟨by decide +kernel, by decide +kernel⟩, List.mem_of_getElem? (i := 871) (by decide +kernel), List.mem_of_getElem? (i := 1055) (by decide +kernel), List.mem_of_getElem? (i := 1056) (by decide +kernel)⟩
theorem lw_p27 : lw_okq (⟨"DotpressModel", "textsChanged", "()I"⟩, 28) := ⟨⟨by decide +kernel, by decide +kernel⟩, List.mem_of_getElem? (i := 871) (by decide +kernel), List.mem_of_getElem? (i := 1059) (by decide +kernel), List.mem_of_getElem? (i := 1060) (by decide +kernel)⟩
theorem lw_p28 : lw_okq (⟨"DotpressModel", "exceptionInBuffer", "()I"⟩, 28) := ⟨⟨by decide +kernel, by decide +kernel⟩, List.mem_of_getElem? (i := 871) (by decide +kernel), List.mem_of_getElem? (i := 1079) (by decide +kernel), List.mem_of_getElem? (i := 1080) (by decide +kernel)⟩
theorem lw_p29 : lw_okq (⟨"DotpressModel", "isText", "(I)Z"⟩, 28) := ⟨⟨by decide +kernel, by decide +kernel⟩, List.mem_of_getElem? (i := 871) (by decide +kernel), List.mem_of_getElem? (i := 1087) (by decide +kernel), List.mem_of_getElem? (i := 1088) (by decide +kernel)⟩
theorem lw_p30 : lw_okq (⟨"DotpressModel", "isWord", "(II)Z"⟩, 28) := ⟨⟨by decide +kernel, by decide +kernel⟩, List.mem_of_getElem? (i := 871) (by decide +kernel), List.mem_of_getElem? (i := 1103) (by decide +kernel), List.mem_of_getElem? (i := 1104) (by decide +kernel)⟩
theorem lw_p31 : lw_okq (⟨"DotpressModel", "breaks", "(II)I"⟩, 28) := ⟨⟨by decide +kernel, by decide +kernel⟩, List.mem_of_getElem? (i := 871) (by decide +kernel), List.mem_of_getElem? (i := 1115) (by decide +kernel), List.mem_of_getElem? (i := 1116) (by decide +kernel)⟩
def lw_privs_2 : List (MethodName × Nat) := [(⟨"DotpressModel", "translates", "(II)V"⟩, 28), (⟨"DotpressModel", "beginOf", "(II)I"⟩, 28), (⟨"DotpressModel", "letterCount", "(II)I"⟩, 28), (⟨"DotpressModel", "isException", "(II)Z"⟩, 28), (⟨"DotpressModel", "isThis", "(III)Z"⟩, 28), (⟨"DotpressModel", "longest", "(IIII)I"⟩, 28), (⟨"DotpressModel", "lengthOf", "(I)I"⟩, 28), (⟨"DotpressModel", "letterOf", "(II)I"⟩, 28), (⟨"DotpressModel", "stands", "(III)Z"⟩, 28), (⟨"DotpressModel", "moves", "(II)V"⟩, 28), (⟨"DotpressModel", "puts", "(IIIII)V"⟩, 28), (⟨"DotpressModel", "textsChanged", "()I"⟩, 28), (⟨"DotpressModel", "exceptionInBuffer", "()I"⟩, 28), (⟨"DotpressModel", "isText", "(I)Z"⟩, 28), (⟨"DotpressModel", "isWord", "(II)Z"⟩, 28), (⟨"DotpressModel", "breaks", "(II)I"⟩, 28)]
theorem lw_r2 : ∀ q ∈ lw_privs_2, lw_okq q := List.forall_mem_cons.mpr ⟨lw_p16, List.forall_mem_cons.mpr ⟨lw_p17, List.forall_mem_cons.mpr ⟨lw_p18, List.forall_mem_cons.mpr ⟨lw_p19, List.forall_mem_cons.mpr ⟨lw_p20, List.forall_mem_cons.mpr ⟨lw_p21, List.forall_mem_cons.mpr ⟨lw_p22, List.forall_mem_cons.mpr ⟨lw_p23, List.forall_mem_cons.mpr ⟨lw_p24, List.forall_mem_cons.mpr ⟨lw_p25, List.forall_mem_cons.mpr ⟨lw_p26, List.forall_mem_cons.mpr ⟨lw_p27, List.forall_mem_cons.mpr ⟨lw_p28, List.forall_mem_cons.mpr ⟨lw_p29, List.forall_mem_cons.mpr ⟨lw_p30, List.forall_mem_cons.mpr ⟨lw_p31, fun _ h => absurd h List.not_mem_nil⟩⟩⟩⟩⟩⟩⟩⟩⟩⟩⟩⟩⟩⟩⟩⟩
theorem lw_p32 : lw_okq (⟨"DotpressModel", "addsCell", "(I)V"⟩, 28) := ⟨⟨by decide +kernel, by decide +kernel⟩, List.mem_of_getElem? (i := 871) (by decide +kernel), List.mem_of_getElem? (i := 1119) (by decide +kernel), List.mem_of_getElem? (i := 1120) (by decide +kernel)⟩
theorem lw_p33 : lw_okq (⟨"DotpressModel", "begins", "()V"⟩, 28) := ⟨⟨by decide +kernel, by decide +kernel⟩, List.mem_of_getElem? (i := 871) (by decide +kernel), List.mem_of_getElem? (i := 1123) (by decide +kernel), List.mem_of_getElem? (i := 1124) (by decide +kernel)⟩
theorem lw_p34 : lw_okq (⟨"DotpressModel", "isWorn", "(I)Z"⟩, 28) := ⟨⟨by decide +kernel, by decide +kernel⟩, List.mem_of_getElem? (i := 871) (by decide +kernel), List.mem_of_getElem? (i := 1139) (by decide +kernel), List.mem_of_getElem? (i := 1140) (by decide +kernel)⟩
theorem lw_p35 : lw_okq (⟨"DotpressModel", "due", "(II)I"⟩, 28) := ⟨⟨by decide +kernel, by decide +kernel⟩, List.mem_of_getElem? (i := 871) (by decide +kernel), List.mem_of_getElem? (i := 1143) (by decide +kernel), List.mem_of_getElem? (i := 1144) (by decide +kernel)⟩
theorem lw_p36 : lw_okq (⟨"DotpressModel", "isEmbossed", "(II)Z"⟩, 28) := ⟨⟨by decide +kernel, by decide +kernel⟩, List.mem_of_getElem? (i := 871) (by decide +kernel), List.mem_of_getElem? (i := 1147) (by decide +kernel), List.mem_of_getElem? (i := 1148) (by decide +kernel)⟩
def lw_privs_3 : List (MethodName × Nat) := [(⟨"DotpressModel", "addsCell", "(I)V"⟩, 28), (⟨"DotpressModel", "begins", "()V"⟩, 28), (⟨"DotpressModel", "isWorn", "(I)Z"⟩, 28), (⟨"DotpressModel", "due", "(II)I"⟩, 28), (⟨"DotpressModel", "isEmbossed", "(II)Z"⟩, 28)]
theorem lw_r3 : ∀ q ∈ lw_privs_3, lw_okq q := List.forall_mem_cons.mpr ⟨lw_p32, List.forall_mem_cons.mpr ⟨lw_p33, List.forall_mem_cons.mpr ⟨lw_p34, List.forall_mem_cons.mpr ⟨lw_p35, List.forall_mem_cons.mpr ⟨lw_p36, fun _ h => absurd h List.not_mem_nil⟩⟩⟩⟩⟩
def lw_privs : List (MethodName × Nat) := lw_privs_1 ++ (lw_privs_2 ++ (lw_privs_3))
def lw_tbl : List Cond := k2_sels lw_privs ++ tables_1
theorem lw_privs_ok : ∀ q ∈ lw_privs, lw_okq q := by
  show ∀ q ∈ lw_privs_1 ++ (lw_privs_2 ++ (lw_privs_3)), lw_okq q
  exact List.forall_mem_append.mpr ⟨lw_r1, List.forall_mem_append.mpr ⟨lw_r2, lw_r3⟩⟩
/-- the streams that the claim lets the run draw from -/
abbrev lw_cs : List Choice := [Jvm.Choice.named "NaN.bits"]
theorem lw_bits : nanBits ∈ lw_cs := by first | decide | exact List.mem_cons_self | simp [lw_cs, nanBits]
end
section
/-! ===== BEGIN words of one list among another's, by their places ===== -/
theorem goodIn_r {big : List Cond} (ws : List Cond) (ps : List Nat) (hp : ws = ps.filterMap (fun i => big[i]?)) (h : ws.all goodWord = true) : GoodIn big ws := by
  intro w hw
  have h1 := List.all_eq_true.mp h w hw
  rw [hp] at hw
  obtain ⟨i, -, hi⟩ := List.mem_filterMap.mp hw
  have hm : w ∈ big := by first | exact List.mem_of_getElem? hi | exact List.getElem?_mem hi
  exact ⟨hm, good_of_word h1⟩
theorem goodIn_app {big a b : List Cond} (ha : GoodIn big a) (hb : GoodIn big b) : GoodIn big (a ++ b) := fun w h => (List.mem_append.mp h).elim (ha w) (hb w)
theorem goodIn_ca {big a b : List Cond} {c : Cond} (ha : GoodIn big (c :: a)) (hb : GoodIn big b) : GoodIn big (c :: (a ++ b)) := fun w h => (List.mem_cons.mp h).elim (fun e => ha w (List.mem_cons.mpr (Or.inl e))) (fun h => (List.mem_append.mp h).elim (fun h => ha w (List.mem_cons.mpr (Or.inr h))) (hb w))
theorem goodIn_sub {big ws : List Cond} (hm : ∀ w ∈ ws, w ∈ big) (h : ws.all goodWord = true) : GoodIn big ws := fun w hw => ⟨hm w hw, good_of_word (List.all_eq_true.mp h w hw)⟩
/-! ===== END ===== -/

/-! ===== BEGIN exceptions that leave a method, and their catching by the caller (launches without stack traces) ===== -/
section VXA
/-! The laws vx_back, vx_callV, vx_callS, vx_callSW, vx_throw0, vx_throwS follow proofs of the library, with one case more: JvmDerived/Free/Laws.lean (Back.of_free), Shelf42/LK1.lean (callV, callS), Shelf/KitTraced.lean (throwNew0V, throwNewS). -/
/-- where a method has thrown q: the class by its name, the cell, what was written, the world -/
def vx_T (XC : String → State → State → Prop) (st : State) (q : Addr) (t : State) (mc ms : Nat) (free : Addr → Prop) : Prop :=
  ∃ (E : String) (ce : Cell) (L : List Loc), XC E st t ∧ t.heap[q]? = some ce ∧ ce.vm = .none ∧ st.vm.findClass E = some ce.cls ∧ st.WarmedH t.vm ∧ st.sameButNew ({ t with vm := st.vm } : State) L mc ms ∧ ∀ z ∈ L, free z.base
def vx_Q (Qc : Array Value → State → Outcome → State → Prop) (XC : String → State → State → Prop) (mc ms : Nat) (free : Addr → Prop) : Array Value → State → Outcome → State → Prop := fun a st o t =>
  (Qc a st o t ∧ ∃ L, FrameEnd st o t L mc ms ∧ ∀ q ∈ L, free q.base) ∨ ∃ q, o = .threw q ∧ vx_T XC st q t mc ms free
/-- a callee that returns or throws -/
def vx_Met (l : Launch) (y : MethodName) (ws : List Cond) (rm : Room) (Pc : Array Value → State → Prop) (Qc : Array Value → State → Outcome → State → Prop) (XC : String → State → State → Prop) (mc ms : Nat) (free : Addr → Prop) : Prop :=
  MetFree l y (headSpec ws rm) Pc (fun _ _ _ _ _ => True) (vx_Q Qc XC mc ms free)
def vx_Post (XC : String → State → State → Prop) (mc ms : Nat) (free : Addr → Prop) : Pt → Array Value → Addr → Pt → Prop := fun A a q B =>
  ∃ (g : JFrame) (mk : MethodId) (t : State) (L : List Loc) (E : String) (ce : Cell), B.U.heap = t.heap ∧ B.U.vm = t.vm ∧ XC E (A.U.calling g mk a) t ∧ t.heap[q]? = some ce ∧ ce.vm = .none ∧ A.U.vm.findClass E = some ce.cls ∧ B.locs = A.locs ++ L ∧ (∀ z ∈ L, free z.base) ∧ B.cells = A.cells + mc ∧ B.slots = A.slots + ms
def vx_Back (l : Launch) (R : Room) (p : Program) (e : Env) (below : List Frame) (s : State) (sargs : Array Value) (y : MethodName) (len W9 : Nat)
    (Pre : Pt → Array Value → Prop) (Post : Pt → Array Value → Option Value → Pt → Prop) (PostX : Pt → Array Value → Addr → Pt → Prop) : Prop :=
  ∀ (m : MethodId) (meth : Method) (c : Code) (A : Pt) (g : JFrame) (ig : Instr) (mk : MethodId) (a : Array Value),
    Stand p l e R s m sargs below meth c A.U A.locs A.cells A.slots → g.method = m → g.locals.size = c.maxLocals → decode c.code g.pc = .ok (ig, len) →
    2 * g.monitorRoom + (g.stack.map fun v => v.category).sum ≤ W9 → A.U.methodNamed? y = some mk → Pre A a →
    (∃ (v : Option Value) (B : Pt), Stand p l e R s m sargs below meth c B.U B.locs B.cells B.slots ∧ Post A a v B ∧
      Steps p.tables e below (doInvoke e (A.U.setTop g) [] mk a).1 (B.U.setTop { g with pc := g.pc + len, stack := v.toList ++ g.stack })) ∨
    (∃ (q : Addr) (B : Pt), Stand p l e R s m sargs below meth c B.U B.locs B.cells B.slots ∧ PostX A a q B ∧
      Steps p.tables e below (doInvoke e (A.U.setTop g) [] mk a).1 ((B.U.setTop g).pushFrame (.throwing q)))
section Payer
variable {l : Launch} {R : Room} {p : Program} {e : Env} {below : List Frame} {s : State} {sargs : Array Value} {y : MethodName} {len W9 : Nat}
theorem vx_back {ws : List Cond} {rm : Room} {Pc : Array Value → State → Prop} {Qc : Array Value → State → Outcome → State → Prop} {XC : String → State → State → Prop} {mc ms : Nat} {free : Addr → Prop} {bytes : ByteArray} {maxL : Nat} {ret : Option FieldType}
    (hM : vx_Met l y ws rm Pc Qc XC mc ms free) (hblind : FrameBlind Pc) (hrc : rm.cells = mc) (hrs : rm.slots = ms)
    (hframes : rm.frames + 1 ≤ R.frames) (hlocals : W9 + (maxL + 11) + rm.locals ≤ R.locals)
    (hws : ∀ w ∈ ws, ∀ a' U, s.WarmedH U.vm → w.before a' U = true) (hcode : Cond.code y bytes maxL ret ∈ ws) (hinit : ∀ a' U, s.WarmedH U.vm → (Cond.initialized y.cls).before a' U = true) :
    vx_Back l R p e below s sargs y len W9 (PreOf R mc ms Pc) (PostOf Qc mc ms free) (vx_Post XC mc ms free) := by
  intro m meth c A g ig mk a X hg hsize hdg hW hn hp
  have h1 : (headSpec ws rm).pre.before a A.U = true := atoms_intro fun w hw => hws w hw _ _ X.warmed
  have h2 : (Cond.code y bytes maxL ret).before a A.U = true := hws _ hcode _ _ X.warmed
  have h3 : (Cond.initialized y.cls).before a A.U = true := hinit _ _ X.warmed
  have h4 : A.cells + (headSpec ws rm).room.cells ≤ R.cells := by rw [show (headSpec ws rm).room.cells = mc from hrc]; exact hp.1
  have h5 : A.slots + (headSpec ws rm).room.slots ≤ R.slots := by rw [show (headSpec ws rm).room.slots = ms from hrs]; exact hp.2.1
  have hPc : Pc a (A.U.calling g mk a) := hblind _ _ _ _ hp.2.2
  obtain ⟨U, Ls, c0, s0⟩ := A
  dsimp only [Pt.U, Pt.locs, Pt.cells, Pt.slots] at h1 h2 h3 h4 h5 X hn hPc ⊢
  obtain ⟨methY, cY, hmY, hcY, -, hlY, -, -, -, -⟩ := Cond.code_spec hn h2
  obtain ⟨kY, hkY, -⟩ := className_of_methodNamed hn
  have hinitY : kY.init = .initialized := Cond.initialized_spec (findClass_of_methodNamed hn) hkY h3
  have h : At U g.method c below := by rw [hg]; exact X.here
  have hlocals9 : W9 + (maxL + 11) + (headSpec ws rm).room.locals ≤ R.locals := hlocals
  have happ : (headSpec ws rm).appliesLoose y e.platform (U.calling g mk a) = true :=
    Spec.appliesLoose_calling (g := g) h hdg hn hkY hinitY
      (X.room_calling (g := g) (R' := (headSpec ws rm).room) hsize hmY hcY hframes (by rw [hlY]; omega) h4 h5) h1
  obtain ⟨mid, hmid⟩ := h.above
  have hfr : (U.setTop g).frames = (.java g :: mid) ++ below := by rw [State.frames_setTop' g h.top, hmid]; rfl
  obtain ⟨o, s₂, hsteps, -, hend, hq⟩ := Steps.callFree hM p X.admits X.cas X.clock (acts := []) hfr happ hPc trivial
  have hq' : vx_Q Qc XC mc ms free a (U.calling g mk a) o s₂ := hq
  rw [State.frames_setTop' g h.top] at hend
  obtain ⟨g₀, hg0⟩ := Option.isSome_iff_exists.mp h.top
  obtain ⟨r, hr⟩ := State.topJava?_eq_some.mp hg0
  have hr' : (({ U with heap := s₂.heap, slotsUsed := s₂.slotsUsed } : State).setVm s₂.vm).frames = .java g₀ :: r := hr
  rcases hq' with ⟨hqc, L, hfe, hL⟩ | ⟨q, rfl, E, ce, L, hx, hce, hcv, hcl, hW₂, hsm, hL⟩
  · obtain ⟨⟨v, rfl⟩, hW₂, e2, q2, q3, q4, q5, q6⟩ := id hfe
    have e3 : s₂ = ({ (U.calling g mk a).setFrames s₂.frames with heap := s₂.heap, slotsUsed := s₂.slotsUsed } : State).setVm s₂.vm := by
      have : s₂ = ({ s₂ with vm := (U.calling g mk a).vm } : State).setVm s₂.vm := rfl
      rw [e2] at this
      exact this
    obtain ⟨c₂, i₂, len₂, hc₂, hd₂, hf₂⟩ := hend
    have hW' : U.WarmedH s₂.vm := hW₂
    have hcc : c₂ = c := by
      have h1 : s₂.code? g.method = U.code? g.method := by
        rw [State.code?_eq, State.code?_eq, hW'.alike.method?]
      exact Option.some.inj (hc₂.symm.trans (h1.trans h.code))
    subst hcc
    have hlen : len₂ = len := by rw [hdg] at hd₂; cases hd₂; rfl
    subst hlen
    have hs₂ : s₂ = (({ U with heap := s₂.heap, slotsUsed := s₂.slotsUsed } : State).setVm s₂.vm).setTop { g with pc := g.pc + len₂, stack := v.toList ++ g.stack } := by
      refine e3.trans ?_
      rw [hf₂, State.calling_eq h.top, State.setFrames_setFrames, State.setTop_of_frames _ hr', hr]
      rfl
    have hsame : U.sameButNew ({ U with heap := s₂.heap, slotsUsed := s₂.slotsUsed } : State) L mc ms := by
      refine ⟨?_, q2, q3, q4, q5, q6⟩
      obtain ⟨t, ht, -⟩ := State.frames_cons hr
      show ({ U with heap := s₂.heap, slotsUsed := s₂.slotsUsed } : State) = { U.setFrames U.frames with heap := s₂.heap, slotsUsed := s₂.slotsUsed }
      rw [State.setFrames_self ht]
    subst hg
    refine Or.inl ⟨v, ⟨(({ U with heap := s₂.heap, slotsUsed := s₂.slotsUsed } : State).setVm s₂.vm), Ls ++ L, c0 + mc, s0 + ms⟩,
      ⟨X.admits, X.cas, X.clock, X.frames, X.room, X.hears, X.method, X.code, (X.here.setHeapUsed s₂.heap s₂.slotsUsed).setVm hW'.alike, X.tail, State.WarmedH.trans X.warmed hW', X.limits, X.bytes, X.same.trans (hsame.setVm s.vm)⟩,
      ⟨g, mk, s₂, L, rfl, rfl, hqc, rfl, hL, rfl, rfl⟩, ?_⟩
    show Steps p.tables e below _ ((({ U with heap := s₂.heap, slotsUsed := s₂.slotsUsed } : State).setVm s₂.vm).setTop { g with pc := g.pc + len₂, stack := v.toList ++ g.stack })
    rw [← hs₂]
    exact hsteps
  · obtain ⟨e2, q2, q3, q4, q5, q6⟩ := id hsm
    have e3 : s₂ = ({ (U.calling g mk a).setFrames s₂.frames with heap := s₂.heap, slotsUsed := s₂.slotsUsed } : State).setVm s₂.vm := by
      have : s₂ = ({ s₂ with vm := (U.calling g mk a).vm } : State).setVm s₂.vm := rfl
      rw [e2] at this
      exact this
    have hf₂ : s₂.frames = .throwing q :: .java g :: U.frames.tail := hend
    have hW' : U.WarmedH s₂.vm := hW₂
    have hs₂ : s₂ = ((({ U with heap := s₂.heap, slotsUsed := s₂.slotsUsed } : State).setVm s₂.vm).setTop g).pushFrame (.throwing q) := by
      refine e3.trans ?_
      rw [hf₂, State.calling_eq h.top, State.setFrames_setFrames, State.pushFrame, State.frames_setTop _ hr', State.setTop_of_frames _ hr', State.setFrames_setFrames, hr]
      rfl
    have hsame : U.sameButNew ({ U with heap := s₂.heap, slotsUsed := s₂.slotsUsed } : State) L mc ms := by
      refine ⟨?_, q2, q3, q4, q5, q6⟩
      obtain ⟨t, ht, -⟩ := State.frames_cons hr
      show ({ U with heap := s₂.heap, slotsUsed := s₂.slotsUsed } : State) = { U.setFrames U.frames with heap := s₂.heap, slotsUsed := s₂.slotsUsed }
      rw [State.setFrames_self ht]
    subst hg
    refine Or.inr ⟨q, ⟨(({ U with heap := s₂.heap, slotsUsed := s₂.slotsUsed } : State).setVm s₂.vm), Ls ++ L, c0 + mc, s0 + ms⟩,
      ⟨X.admits, X.cas, X.clock, X.frames, X.room, X.hears, X.method, X.code, (X.here.setHeapUsed s₂.heap s₂.slotsUsed).setVm hW'.alike, X.tail, State.WarmedH.trans X.warmed hW', X.limits, X.bytes, X.same.trans (hsame.setVm s.vm)⟩,
      ⟨g, mk, s₂, L, E, ce, rfl, rfl, hx, hce, hcv, hcl, rfl, hL, rfl, rfl⟩, ?_⟩
    show Steps p.tables e below _ (((({ U with heap := s₂.heap, slotsUsed := s₂.slotsUsed } : State).setVm s₂.vm).setTop g).pushFrame (.throwing q))
    rw [← hs₂]
    exact hsteps
end Payer
section Calls
variable {p : Program} {l : Launch} {e : Env} {R : Room} {s : State} {m : MethodId} {args : Array Value} {below : List Frame} {meth : Method} {c : Code} {T : State} {locs : List Loc} {cells slots : Nat}
theorem vx_callV (X : Stand p l e R s m args below meth c T locs cells slots) (hexec : p.tables.exec = Jvm.exec) {own C : String} {index : Nat} {y : MethodName} {bytes : ByteArray} {maxL : Nat} {ret : Option FieldType}
    (hown : s.vm.findClass own = some m.cls) (hlink : (Cond.methodLink own index y).before args s = true) (hinst : (Cond.instanceMethod y).before args s = true) (hsel : (Cond.selects C y y).before args s = true)
    (hcode : (Cond.code y bytes maxL ret).before args s = true) (hy : y.cls ≠ "java/lang/invoke/MethodHandle" ∧ y.cls ≠ "java/lang/invoke/VarHandle")
    {W9 : Nat} {Pre : Pt → Array Value → Prop} {Post : Pt → Array Value → Option Value → Pt → Prop} {PostX : Pt → Array Value → Addr → Pt → Prop} (hK : vx_Back l R p e below s args y 3 W9 Pre Post PostX)
    {b : Addr} {cellB : Cell} (hcell : T.heap[b]? = some cellB) (hobj : cellB.vm.isStatics = false) (hcls : s.vm.findClass C = some cellB.cls)
    {g : JFrame} (hg : g.method = m) (hsize : g.locals.size = c.maxLocals) {argsL rest : List Value} (hlen : ∀ sig, parseMethodDescriptor y.desc = some sig → argsL.length = sig.parameters.length)
    (hstack : g.stack = argsL.reverse ++ .ref b :: rest) (hW : 2 * g.monitorRoom + (rest.map fun v => v.category).sum ≤ W9) (hdg : decode c.code g.pc = .ok (.invokevirtual index, 3))
    (hpre : ∀ vm₁, s.WarmedH vm₁ → Pre ⟨T.setVm vm₁, locs, cells, slots⟩ (Value.ref b :: argsL).toArray) :
    (∃ (v : Option Value) (vm₁ : Vm) (B : Pt), s.WarmedH vm₁ ∧ Stand p l e R s m args below meth c B.U B.locs B.cells B.slots ∧ Post ⟨T.setVm vm₁, locs, cells, slots⟩ (Value.ref b :: argsL).toArray v B ∧
      ∀ target, Steps p.tables e below (B.U.setTop { g with pc := g.pc + 3, stack := v.toList ++ rest }) target → Steps p.tables e below (T.setTop g) target) ∨
    (∃ (q : Addr) (vm₁ : Vm) (B : Pt), s.WarmedH vm₁ ∧ Stand p l e R s m args below meth c B.U B.locs B.cells B.slots ∧ PostX ⟨T.setVm vm₁, locs, cells, slots⟩ (Value.ref b :: argsL).toArray q B ∧
      Steps p.tables e below (T.setTop g) ((B.U.setTop { g with stack := rest }).pushFrame (.throwing q))) := by
  obtain ⟨mk, methM, hnamed, hmethM, hstM, habM⟩ := Cond.instanceMethod_spec hinst
  obtain ⟨methM', cM, hmethM', -, -, -, -, -, -, hsigM⟩ := Cond.code_spec hnamed hcode
  cases hmethM.symm.trans hmethM'
  obtain ⟨c2, r2, m2, q1, q2, q3, q4, kP, hkP, hkPi⟩ := Cond.selects_spec hsel
  cases hcls.symm.trans q1
  cases (State.methodFound?_of_named hnamed hy).symm.trans q2
  cases hnamed.symm.trans q3
  have hselP : selectMethod e.platform s.vm cellB.cls mk = .method mk := by rw [Launch.admits_selectMethod X.admits]; exact q4
  obtain ⟨vm₁, X₁, hstep₁⟩ := X.invokevirtual hexec hown hlink hnamed hmethM hstM hkP hkPi hy (a := b) (cell := cellB) hcell
    (fun z h => by rw [h] at hobj; cases hobj) hselP hmethM habM hkP hkPi (g := g) hg (argsL := argsL) (rest := rest) (hlen _ hsigM) hstack hdg
  rcases hK m meth c ⟨T.setVm vm₁, locs, cells, slots⟩ { g with stack := rest } (.invokevirtual index) mk (Value.ref b :: argsL).toArray X₁ hg hsize hdg hW (X₁.named hnamed) (hpre vm₁ X₁.warmed) with ⟨v, B, X', hpost, hsteps⟩ | ⟨q, B, X', hpost, hsteps⟩
  · exact Or.inl ⟨v, vm₁, B, X₁.warmed, X', hpost, fun target h => hstep₁ _ fun acts => by rw [doInvoke_state]; exact hsteps.trans h⟩
  · exact Or.inr ⟨q, vm₁, B, X₁.warmed, X', hpost, hstep₁ _ fun acts => by rw [doInvoke_state]; exact hsteps⟩
theorem vx_callS (X : Stand p l e R s m args below meth c T locs cells slots) (hexec : p.tables.exec = Jvm.exec) {own : String} {index : Nat} {y : MethodName} {bytes : ByteArray} {maxL : Nat} {ret : Option FieldType}
    (hown : s.vm.findClass own = some m.cls) (hlink : (Cond.methodLink own index y).before args s = true) (hstat : (Cond.static y).before args s = true) (hinit : (Cond.initialized y.cls).before args s = true)
    (hcode : (Cond.code y bytes maxL ret).before args s = true) (hy : y.cls ≠ "java/lang/invoke/MethodHandle" ∧ y.cls ≠ "java/lang/invoke/VarHandle")
    {W9 : Nat} {Pre : Pt → Array Value → Prop} {Post : Pt → Array Value → Option Value → Pt → Prop} {PostX : Pt → Array Value → Addr → Pt → Prop} (hK : vx_Back l R p e below s args y 3 W9 Pre Post PostX)
    {g : JFrame} (hg : g.method = m) (hsize : g.locals.size = c.maxLocals) {argsL rest : List Value} (hlen : ∀ sig, parseMethodDescriptor y.desc = some sig → argsL.length = sig.parameters.length)
    (hstack : g.stack = argsL.reverse ++ rest) (hW : 2 * g.monitorRoom + (rest.map fun v => v.category).sum ≤ W9) (hdg : decode c.code g.pc = .ok (.invokestatic index, 3))
    (hpre : ∀ vm₁, s.WarmedH vm₁ → Pre ⟨T.setVm vm₁, locs, cells, slots⟩ argsL.toArray) :
    (∃ (v : Option Value) (vm₁ : Vm) (B : Pt), s.WarmedH vm₁ ∧ Stand p l e R s m args below meth c B.U B.locs B.cells B.slots ∧ Post ⟨T.setVm vm₁, locs, cells, slots⟩ argsL.toArray v B ∧
      ∀ target, Steps p.tables e below (B.U.setTop { g with pc := g.pc + 3, stack := v.toList ++ rest }) target → Steps p.tables e below (T.setTop g) target) ∨
    (∃ (q : Addr) (vm₁ : Vm) (B : Pt), s.WarmedH vm₁ ∧ Stand p l e R s m args below meth c B.U B.locs B.cells B.slots ∧ PostX ⟨T.setVm vm₁, locs, cells, slots⟩ argsL.toArray q B ∧
      Steps p.tables e below (T.setTop g) ((B.U.setTop { g with stack := rest }).pushFrame (.throwing q))) := by
  obtain ⟨mk, hnamed⟩ := Cond.code_named hcode
  obtain ⟨methM, cM, hmethM, -, -, -, -, -, -, hsigM⟩ := Cond.code_spec hnamed hcode
  have hstatic : methM.isStatic = true := Cond.static_spec hnamed hmethM hstat
  obtain ⟨kP, hkP, -⟩ := className_of_methodNamed hnamed
  have hinitP : kP.init = .initialized := Cond.initialized_spec (findClass_of_methodNamed hnamed) hkP hinit
  obtain ⟨vm₁, X₁, hstep₁⟩ := X.invokestatic hexec hown hlink hnamed hmethM hstatic hkP hinitP hy (g := g) hg (argsL := argsL) (rest := rest) (hlen _ hsigM) hstack hdg
  rcases hK m meth c ⟨T.setVm vm₁, locs, cells, slots⟩ { g with stack := rest } (.invokestatic index) mk argsL.toArray X₁ hg hsize hdg hW (X₁.named hnamed) (hpre vm₁ X₁.warmed) with ⟨v, B, X', hpost, hsteps⟩ | ⟨q, B, X', hpost, hsteps⟩
  · exact Or.inl ⟨v, vm₁, B, X₁.warmed, X', hpost, fun target h => hstep₁ _ fun acts => by rw [doInvoke_state]; exact hsteps.trans h⟩
  · exact Or.inr ⟨q, vm₁, B, X₁.warmed, X', hpost, hstep₁ _ fun acts => by rw [doInvoke_state]; exact hsteps⟩
end Calls
theorem vx_cls {s : State} {T : State} {vm₁ : Vm} {E : String} {k : ClassId} (hW : s.WarmedH vm₁) (h : (T.setVm vm₁).vm.findClass E = some k) : s.vm.findClass E = some k := by
  have h1 : vm₁.findClass E = some k := h
  rw [hW.alike.findClass] at h1
  exact h1
/-- the method's frame g, with q thrown over it -/
def vx_W (p : Program) (l : Launch) (e : Env) (R : Room) (s : State) (m : MethodId) (args : Array Value) (below : List Frame) (meth : Method) (c : Code) (H : Heap) (locs : List Loc) (cells slots : Nat) (Q : State → Prop) (g : JFrame) (q : Addr) : Prop :=
  ∀ T : State, T.heap = H → Stand p l e R s m args below meth c T locs cells slots → ∃ t, Steps p.tables e below ((T.setTop g).pushFrame (.throwing q)) t ∧ Q t
def vx_Run (p : Program) (l : Launch) (e : Env) (R : Room) (s : State) (m : MethodId) (args : Array Value) (below : List Frame) (meth : Method) (c : Code) (H : Heap) (locs : List Loc) (cells slots mc ms : Nat) (g : JFrame) (rest : List Value) (Qa : State → Outcome → State → Prop) (XC : String → State → State → Prop) (free : Addr → Prop) : Prop :=
  ∀ T : State, T.heap = H → Stand p l e R s m args below meth c T locs cells slots →
    (∃ (v : Option Value) (st₀ t T' : State) (L : List Loc), st₀.heap = H ∧ Stand p l e R s m args below meth c T' (locs ++ L) (cells + mc) (slots + ms) ∧ (∀ q ∈ L, free q.base) ∧ T'.heap = t.heap ∧ T'.vm = t.vm ∧ Qa st₀ (.returned v) t ∧
      Goes p e below T g T' { g with pc := g.pc + 3, stack := v.toList ++ rest }) ∨
    (∃ (q : Addr) (st₀ t T' : State) (L : List Loc) (E : String) (ce : Cell), st₀.heap = H ∧ Stand p l e R s m args below meth c T' (locs ++ L) (cells + mc) (slots + ms) ∧ (∀ z ∈ L, free z.base) ∧ T'.heap = t.heap ∧ T'.vm = t.vm ∧ XC E st₀ t ∧ t.heap[q]? = some ce ∧ ce.vm = .none ∧ s.vm.findClass E = some ce.cls ∧
      Steps p.tables e below (T.setTop g) ((T'.setTop { g with stack := rest }).pushFrame (.throwing q)))
def vx_X {S : Type} (px : S → Prop) (B : String → S → State → Prop) (A : Nat → Prop) : String → State → State → Prop := fun E st t => ∃ u : S, px u ∧ B E u t ∧ va_F A st t
section Runs
variable {p : Program} {l : Launch} {e : Env} {R : Room} {s : State} {m : MethodId} {args : Array Value} {below : List Frame} {meth : Method} {c : Code} {H : Heap} {locs : List Loc} {cells slots : Nat}
variable {y : MethodName} {bytes cc : ByteArray} {maxL nL mc ms n index : Nat} {ret : Option FieldType} {ws : List Cond} {rm : Room} {Pc : Array Value → State → Prop} {Qc : Array Value → State → Outcome → State → Prop} {XC : String → State → State → Prop} {free : Addr → Prop} {Ts : List Cond} {own C : String} {b : Addr} {As rest : List Value} {g : JFrame}
theorem vx_callBack (cb : CallB R s args own index y bytes maxL ret ws rm mc ms n) (hM : vx_Met l y ws rm Pc Qc XC mc ms free) (hbl : FrameBlind Pc) : vx_Back l R p e below s args y 3 8 (PreOf R mc ms Pc) (PostOf Qc mc ms free) (vx_Post XC mc ms free) := by
  obtain ⟨hrc, hrs, hfr, hlo, hws, hcw, -, hini, -⟩ := cb
  exact vx_back (bytes := bytes) (maxL := maxL) (ret := ret) hM hbl hrc hrs hfr hlo hws hcw (fun a' U hW => word_at hW (Or.inl (by first | rfl | simp [Cond.onTables, Cond.keeps, Cond.steady])) hini)
theorem vx_runV (S : CallFix p m c cc nL s args Ts own) (hM : vx_Met l y ws rm Pc Qc XC mc ms free) (cw : CallW R s args own C index y bytes maxL ret ws rm mc ms n) (hp : PreV s H C b Pc As)
    (hg : g.method = m) (hn : As.length = n) (hsize : g.locals.size = nL) (hstack : g.stack = As.reverse ++ .ref b :: rest) (hW : 2 * g.monitorRoom + (rest.map fun v => v.category).sum ≤ 8) (hdg : decode cc g.pc = .ok (.invokevirtual index, 3)) (hf : cells + mc ≤ R.cells ∧ slots + ms ≤ R.slots) :
    vx_Run p l e R s m args below meth c H locs cells slots mc ms g rest (Qc (Value.ref b :: As).toArray) XC free := by
  have hK : vx_Back l R p e below s args y 3 8 (PreOf R mc ms Pc) (PostOf Qc mc ms free) (vx_Post XC mc ms free) := vx_callBack cw.1 hM hp.1
  obtain ⟨⟨-, -, -, -, -, -, hcode, -, hy, hlen, hl⟩, hin, hse⟩ := cw
  obtain ⟨hx, hb, hml, ho, -⟩ := S
  obtain ⟨-, ⟨cellB, hcB, hoB, hclB⟩, hPc⟩ := hp
  intro T hT X
  rcases vx_callV X hx (C := C) (bytes := bytes) (maxL := maxL) (ret := ret) ho hl hin hse hcode hy hK (by rw [hT]; exact hcB) hoB hclB hg (hsize.trans hml.symm) (argsL := As) (rest := rest) (fun sig h => hn.trans (hlen sig h)) hstack hW (by rw [hb]; exact hdg)
    (fun vm₁ hW₁ => ⟨hf.1, hf.2, hPc (T.setVm vm₁) hT hW₁⟩) with ⟨v, vm₁, ⟨U', l2, c2, s2⟩, hW₁, X', ⟨g', mk, t, L, e1, e2, hq, h1, hL, h2, h3⟩, st⟩ | ⟨q, vm₁, ⟨U', l2, c2, s2⟩, hW₁, X', ⟨g', mk, t, L, E, ce, e1, e2, hq, hce, hcv, hcl, h1, hL, h2, h3⟩, st⟩
  · dsimp only [Pt.U, Pt.locs, Pt.cells, Pt.slots] at X' e1 e2 h1 h2 h3 st
    subst h1; subst h2; subst h3
    exact Or.inl ⟨v, (T.setVm vm₁).calling g' mk (Value.ref b :: As).toArray, t, U', L, hT, X', hL, e1, e2, hq, st⟩
  · dsimp only [Pt.U, Pt.locs, Pt.cells, Pt.slots] at X' e1 e2 h1 h2 h3 st hcl
    subst h1; subst h2; subst h3
    exact Or.inr ⟨q, (T.setVm vm₁).calling g' mk (Value.ref b :: As).toArray, t, U', L, E, ce, hT, X', hL, e1, e2, hq, hce, hcv, vx_cls hW₁ hcl, st⟩
theorem vx_runS (S : CallFix p m c cc nL s args Ts own) (hM : vx_Met l y ws rm Pc Qc XC mc ms free) (cw : CallB R s args own index y bytes maxL ret ws rm mc ms n ∧ (Cond.static y).before args s = true) (hp : PreS s H Pc As)
    (hg : g.method = m) (hn : As.length = n) (hsize : g.locals.size = nL) (hstack : g.stack = As.reverse ++ rest) (hW : 2 * g.monitorRoom + (rest.map fun v => v.category).sum ≤ 8) (hdg : decode cc g.pc = .ok (.invokestatic index, 3)) (hf : cells + mc ≤ R.cells ∧ slots + ms ≤ R.slots) :
    vx_Run p l e R s m args below meth c H locs cells slots mc ms g rest (Qc As.toArray) XC free := by
  have hK : vx_Back l R p e below s args y 3 8 (PreOf R mc ms Pc) (PostOf Qc mc ms free) (vx_Post XC mc ms free) := vx_callBack cw.1 hM hp.1
  obtain ⟨⟨-, -, -, -, -, -, hcode, hini, hy, hlen, hl⟩, hstt⟩ := cw
  obtain ⟨hx, hb, hml, ho, -⟩ := S
  intro T hT X
  rcases vx_callS X hx (bytes := bytes) (maxL := maxL) (ret := ret) ho hl hstt hini hcode hy hK hg (hsize.trans hml.symm) (argsL := As) (rest := rest) (fun sig h => hn.trans (hlen sig h)) hstack hW (by rw [hb]; exact hdg)
    (fun vm₁ hW₁ => ⟨hf.1, hf.2, hp.2 (T.setVm vm₁) hT hW₁⟩) with ⟨v, vm₁, ⟨U', l2, c2, s2⟩, hW₁, X', ⟨g', mk, t, L, e1, e2, hq, h1, hL, h2, h3⟩, st⟩ | ⟨q, vm₁, ⟨U', l2, c2, s2⟩, hW₁, X', ⟨g', mk, t, L, E, ce, e1, e2, hq, hce, hcv, hcl, h1, hL, h2, h3⟩, st⟩
  · dsimp only [Pt.U, Pt.locs, Pt.cells, Pt.slots] at X' e1 e2 h1 h2 h3 st
    subst h1; subst h2; subst h3
    exact Or.inl ⟨v, (T.setVm vm₁).calling g' mk As.toArray, t, U', L, hT, X', hL, e1, e2, hq, st⟩
  · dsimp only [Pt.U, Pt.locs, Pt.cells, Pt.slots] at X' e1 e2 h1 h2 h3 st hcl
    subst h1; subst h2; subst h3
    exact Or.inr ⟨q, (T.setVm vm₁).calling g' mk As.toArray, t, U', L, E, ce, hT, X', hL, e1, e2, hq, hce, hcv, vx_cls hW₁ hcl, st⟩
end Runs
section Rows
variable {p : Program} {l : Launch} {e : Env} {R : Room} {s : State} {m : MethodId} {args : Array Value} {below : List Frame} {meth : Method} {c : Code} {H : Heap} {locs : List Loc} {cells slots : Nat} {Q : State → Prop}
variable {mc ms : Nat} {free : Addr → Prop} {A0 A1 : Nat → Prop} {H0 : Heap} {a : Array Value} {pc : Nat} {ls : Array Slot} {st0 rest : List Value}
theorem vx_keep {st₀ t T' : State} {L : List Loc} (h0 : st₀.heap = H) (e1 : T'.heap = t.heap) (hS : va_S A0 H0 H locs) (hA : ∀ q, q < H.size → A1 q → A0 q) (hf : ∀ q, free q → A0 q) (hL : ∀ q ∈ L, free q.base) (hF : va_F A1 st₀ t) :
    H.size ≤ T'.heap.size ∧ (∀ q : Nat, q < H.size → ¬ A1 q → T'.heap[q]? = H[q]?) ∧ va_S A0 H0 T'.heap (locs ++ L) := by
  obtain ⟨hz, hk⟩ := hF
  rw [h0] at hz hk
  exact ⟨by rw [e1]; exact hz, fun q h1 h2 => by rw [e1]; exact hk q h1 h2,
    ⟨Nat.le_trans hS.1 (by rw [e1]; exact hz), fun q h1 h2 => by rw [e1, hk q (Nat.lt_of_lt_of_le h1 hS.1) (fun z => h2 (hA q (Nat.lt_of_lt_of_le h1 hS.1) z))]; exact hS.2.1 q h1 h2, fun q hq => by
      rcases List.mem_append.mp hq with h | h
      · exact hS.2.2 q h
      · exact hf _ (hL q h)⟩⟩
theorem vx_calli {S SX : Type} {post : Int32 → S → Prop} {px : SX → Prop} {B : S → State → Prop} {BX : String → SX → State → Prop} {AX : Nat → Prop} (hr : vx_Run p l e R s m args below meth c H locs cells slots mc ms (F0 m pc ls st0) rest (va_Qi post B A1 a) (vx_X px BX AX) free) (hS : va_S A0 H0 H locs) (hA : ∀ q, q < H.size → A1 q → A0 q) (hf : ∀ q, free q → A0 q) (hAX : ∀ q, q < H.size → AX q → A0 q)
    (kx : ∀ (E : String) (ce : Cell) (q9 : Addr) (u : SX) (t : State) (H1 : Heap) (locs1 : List Loc), t.heap = H1 → s.vm.Alike t.vm → px u → BX E u t → H.size ≤ H1.size → (∀ q : Nat, q < H.size → ¬ AX q → H1[q]? = H[q]?) → va_S A0 H0 H1 locs1 → H1[q9]? = some ce → ce.vm = .none → s.vm.findClass E = some ce.cls → vx_W p l e R s m args below meth c H1 locs1 (cells + mc) (slots + ms) Q (F0 m pc ls rest) q9)
    (kk : ∀ (r : Int32) (u : S) (t : State) (H1 : Heap) (locs1 : List Loc), t.heap = H1 → s.vm.Alike t.vm → post r u → B u t → H.size ≤ H1.size → (∀ q : Nat, q < H.size → ¬ A1 q → H1[q]? = H[q]?) → va_S A0 H0 H1 locs1 → W p l e R s m args below meth c H1 locs1 (cells + mc) (slots + ms) Q (F0 m (pc + 3) ls (.int r :: rest))) : W p l e R s m args below meth c H locs cells slots Q (F0 m pc ls st0) := by
  intro T hT X
  rcases hr T hT X with ⟨v, st₀, t, T', L, h0, X', hL, e1, e2, ⟨⟨r, u, hv, hp, hb⟩, hF⟩, st⟩ | ⟨q, st₀, t, T', L, E, ce, h0, X', hL, e1, e2, ⟨u, hp, hb, hF⟩, hce, hcv, hcl, st⟩
  · cases hv
    obtain ⟨k1, k2, k3⟩ := vx_keep h0 e1 hS hA hf hL hF
    obtain ⟨t2, a1, b1⟩ := kk r u t T'.heap (locs ++ L) e1.symm (by rw [← e2]; exact X'.warmed.alike) hp hb k1 k2 k3 T' rfl X'
    exact ⟨t2, st t2 a1, b1⟩
  · obtain ⟨k1, k2, k3⟩ := vx_keep h0 e1 hS hAX hf hL hF
    obtain ⟨t2, a1, b1⟩ := kx E ce q u t T'.heap (locs ++ L) e1.symm (by rw [← e2]; exact X'.warmed.alike) hp hb k1 k2 k3 (by rw [e1]; exact hce) hcv hcl T' rfl X'
    exact ⟨t2, st.trans a1, b1⟩
theorem vx_calll {S SX : Type} {post : Int64 → S → Prop} {px : SX → Prop} {B : S → State → Prop} {BX : String → SX → State → Prop} {AX : Nat → Prop} (hr : vx_Run p l e R s m args below meth c H locs cells slots mc ms (F0 m pc ls st0) rest (va_Ql post B A1 a) (vx_X px BX AX) free) (hS : va_S A0 H0 H locs) (hA : ∀ q, q < H.size → A1 q → A0 q) (hf : ∀ q, free q → A0 q) (hAX : ∀ q, q < H.size → AX q → A0 q)
    (kx : ∀ (E : String) (ce : Cell) (q9 : Addr) (u : SX) (t : State) (H1 : Heap) (locs1 : List Loc), t.heap = H1 → s.vm.Alike t.vm → px u → BX E u t → H.size ≤ H1.size → (∀ q : Nat, q < H.size → ¬ AX q → H1[q]? = H[q]?) → va_S A0 H0 H1 locs1 → H1[q9]? = some ce → ce.vm = .none → s.vm.findClass E = some ce.cls → vx_W p l e R s m args below meth c H1 locs1 (cells + mc) (slots + ms) Q (F0 m pc ls rest) q9)
    (kk : ∀ (r : Int64) (u : S) (t : State) (H1 : Heap) (locs1 : List Loc), t.heap = H1 → s.vm.Alike t.vm → post r u → B u t → H.size ≤ H1.size → (∀ q : Nat, q < H.size → ¬ A1 q → H1[q]? = H[q]?) → va_S A0 H0 H1 locs1 → W p l e R s m args below meth c H1 locs1 (cells + mc) (slots + ms) Q (F0 m (pc + 3) ls (.long r :: rest))) : W p l e R s m args below meth c H locs cells slots Q (F0 m pc ls st0) := by
  intro T hT X
  rcases hr T hT X with ⟨v, st₀, t, T', L, h0, X', hL, e1, e2, ⟨⟨r, u, hv, hp, hb⟩, hF⟩, st⟩ | ⟨q, st₀, t, T', L, E, ce, h0, X', hL, e1, e2, ⟨u, hp, hb, hF⟩, hce, hcv, hcl, st⟩
  · cases hv
    obtain ⟨k1, k2, k3⟩ := vx_keep h0 e1 hS hA hf hL hF
    obtain ⟨t2, a1, b1⟩ := kk r u t T'.heap (locs ++ L) e1.symm (by rw [← e2]; exact X'.warmed.alike) hp hb k1 k2 k3 T' rfl X'
    exact ⟨t2, st t2 a1, b1⟩
  · obtain ⟨k1, k2, k3⟩ := vx_keep h0 e1 hS hAX hf hL hF
    obtain ⟨t2, a1, b1⟩ := kx E ce q u t T'.heap (locs ++ L) e1.symm (by rw [← e2]; exact X'.warmed.alike) hp hb k1 k2 k3 (by rw [e1]; exact hce) hcv hcl T' rfl X'
    exact ⟨t2, st.trans a1, b1⟩
theorem vx_callf {S SX : Type} {post : UInt32 → S → Prop} {px : SX → Prop} {B : S → State → Prop} {BX : String → SX → State → Prop} {AX : Nat → Prop} (hr : vx_Run p l e R s m args below meth c H locs cells slots mc ms (F0 m pc ls st0) rest (va_Qf post B A1 a) (vx_X px BX AX) free) (hS : va_S A0 H0 H locs) (hA : ∀ q, q < H.size → A1 q → A0 q) (hf : ∀ q, free q → A0 q) (hAX : ∀ q, q < H.size → AX q → A0 q)
    (kx : ∀ (E : String) (ce : Cell) (q9 : Addr) (u : SX) (t : State) (H1 : Heap) (locs1 : List Loc), t.heap = H1 → s.vm.Alike t.vm → px u → BX E u t → H.size ≤ H1.size → (∀ q : Nat, q < H.size → ¬ AX q → H1[q]? = H[q]?) → va_S A0 H0 H1 locs1 → H1[q9]? = some ce → ce.vm = .none → s.vm.findClass E = some ce.cls → vx_W p l e R s m args below meth c H1 locs1 (cells + mc) (slots + ms) Q (F0 m pc ls rest) q9)
    (kk : ∀ (r : UInt32) (u : S) (t : State) (H1 : Heap) (locs1 : List Loc), t.heap = H1 → s.vm.Alike t.vm → post r u → B u t → H.size ≤ H1.size → (∀ q : Nat, q < H.size → ¬ A1 q → H1[q]? = H[q]?) → va_S A0 H0 H1 locs1 → W p l e R s m args below meth c H1 locs1 (cells + mc) (slots + ms) Q (F0 m (pc + 3) ls (.float r :: rest))) : W p l e R s m args below meth c H locs cells slots Q (F0 m pc ls st0) := by
  intro T hT X
  rcases hr T hT X with ⟨v, st₀, t, T', L, h0, X', hL, e1, e2, ⟨⟨r, u, hv, hp, hb⟩, hF⟩, st⟩ | ⟨q, st₀, t, T', L, E, ce, h0, X', hL, e1, e2, ⟨u, hp, hb, hF⟩, hce, hcv, hcl, st⟩
  · cases hv
    obtain ⟨k1, k2, k3⟩ := vx_keep h0 e1 hS hA hf hL hF
    obtain ⟨t2, a1, b1⟩ := kk r u t T'.heap (locs ++ L) e1.symm (by rw [← e2]; exact X'.warmed.alike) hp hb k1 k2 k3 T' rfl X'
    exact ⟨t2, st t2 a1, b1⟩
  · obtain ⟨k1, k2, k3⟩ := vx_keep h0 e1 hS hAX hf hL hF
    obtain ⟨t2, a1, b1⟩ := kx E ce q u t T'.heap (locs ++ L) e1.symm (by rw [← e2]; exact X'.warmed.alike) hp hb k1 k2 k3 (by rw [e1]; exact hce) hcv hcl T' rfl X'
    exact ⟨t2, st.trans a1, b1⟩
theorem vx_calld {S SX : Type} {post : UInt64 → S → Prop} {px : SX → Prop} {B : S → State → Prop} {BX : String → SX → State → Prop} {AX : Nat → Prop} (hr : vx_Run p l e R s m args below meth c H locs cells slots mc ms (F0 m pc ls st0) rest (va_Qd post B A1 a) (vx_X px BX AX) free) (hS : va_S A0 H0 H locs) (hA : ∀ q, q < H.size → A1 q → A0 q) (hf : ∀ q, free q → A0 q) (hAX : ∀ q, q < H.size → AX q → A0 q)
    (kx : ∀ (E : String) (ce : Cell) (q9 : Addr) (u : SX) (t : State) (H1 : Heap) (locs1 : List Loc), t.heap = H1 → s.vm.Alike t.vm → px u → BX E u t → H.size ≤ H1.size → (∀ q : Nat, q < H.size → ¬ AX q → H1[q]? = H[q]?) → va_S A0 H0 H1 locs1 → H1[q9]? = some ce → ce.vm = .none → s.vm.findClass E = some ce.cls → vx_W p l e R s m args below meth c H1 locs1 (cells + mc) (slots + ms) Q (F0 m pc ls rest) q9)
    (kk : ∀ (r : UInt64) (u : S) (t : State) (H1 : Heap) (locs1 : List Loc), t.heap = H1 → s.vm.Alike t.vm → post r u → B u t → H.size ≤ H1.size → (∀ q : Nat, q < H.size → ¬ A1 q → H1[q]? = H[q]?) → va_S A0 H0 H1 locs1 → W p l e R s m args below meth c H1 locs1 (cells + mc) (slots + ms) Q (F0 m (pc + 3) ls (.double r :: rest))) : W p l e R s m args below meth c H locs cells slots Q (F0 m pc ls st0) := by
  intro T hT X
  rcases hr T hT X with ⟨v, st₀, t, T', L, h0, X', hL, e1, e2, ⟨⟨r, u, hv, hp, hb⟩, hF⟩, st⟩ | ⟨q, st₀, t, T', L, E, ce, h0, X', hL, e1, e2, ⟨u, hp, hb, hF⟩, hce, hcv, hcl, st⟩
  · cases hv
    obtain ⟨k1, k2, k3⟩ := vx_keep h0 e1 hS hA hf hL hF
    obtain ⟨t2, a1, b1⟩ := kk r u t T'.heap (locs ++ L) e1.symm (by rw [← e2]; exact X'.warmed.alike) hp hb k1 k2 k3 T' rfl X'
    exact ⟨t2, st t2 a1, b1⟩
  · obtain ⟨k1, k2, k3⟩ := vx_keep h0 e1 hS hAX hf hL hF
    obtain ⟨t2, a1, b1⟩ := kx E ce q u t T'.heap (locs ++ L) e1.symm (by rw [← e2]; exact X'.warmed.alike) hp hb k1 k2 k3 (by rw [e1]; exact hce) hcv hcl T' rfl X'
    exact ⟨t2, st.trans a1, b1⟩
theorem vx_callv {S SX : Type} {post : S → Prop} {px : SX → Prop} {B : S → State → Prop} {BX : String → SX → State → Prop} {AX : Nat → Prop} (hr : vx_Run p l e R s m args below meth c H locs cells slots mc ms (F0 m pc ls st0) rest (va_Qv post B A1 a) (vx_X px BX AX) free) (hS : va_S A0 H0 H locs) (hA : ∀ q, q < H.size → A1 q → A0 q) (hf : ∀ q, free q → A0 q) (hAX : ∀ q, q < H.size → AX q → A0 q)
    (kx : ∀ (E : String) (ce : Cell) (q9 : Addr) (u : SX) (t : State) (H1 : Heap) (locs1 : List Loc), t.heap = H1 → s.vm.Alike t.vm → px u → BX E u t → H.size ≤ H1.size → (∀ q : Nat, q < H.size → ¬ AX q → H1[q]? = H[q]?) → va_S A0 H0 H1 locs1 → H1[q9]? = some ce → ce.vm = .none → s.vm.findClass E = some ce.cls → vx_W p l e R s m args below meth c H1 locs1 (cells + mc) (slots + ms) Q (F0 m pc ls rest) q9)
    (kk : ∀ (u : S) (t : State) (H1 : Heap) (locs1 : List Loc), t.heap = H1 → s.vm.Alike t.vm → post u → B u t → H.size ≤ H1.size → (∀ q : Nat, q < H.size → ¬ A1 q → H1[q]? = H[q]?) → va_S A0 H0 H1 locs1 → W p l e R s m args below meth c H1 locs1 (cells + mc) (slots + ms) Q (F0 m (pc + 3) ls (rest))) : W p l e R s m args below meth c H locs cells slots Q (F0 m pc ls st0) := by
  intro T hT X
  rcases hr T hT X with ⟨v, st₀, t, T', L, h0, X', hL, e1, e2, ⟨⟨u, hv, hp, hb⟩, hF⟩, st⟩ | ⟨q, st₀, t, T', L, E, ce, h0, X', hL, e1, e2, ⟨u, hp, hb, hF⟩, hce, hcv, hcl, st⟩
  · cases hv
    obtain ⟨k1, k2, k3⟩ := vx_keep h0 e1 hS hA hf hL hF
    obtain ⟨t2, a1, b1⟩ := kk u t T'.heap (locs ++ L) e1.symm (by rw [← e2]; exact X'.warmed.alike) hp hb k1 k2 k3 T' rfl X'
    exact ⟨t2, st t2 a1, b1⟩
  · obtain ⟨k1, k2, k3⟩ := vx_keep h0 e1 hS hAX hf hL hF
    obtain ⟨t2, a1, b1⟩ := kx E ce q u t T'.heap (locs ++ L) e1.symm (by rw [← e2]; exact X'.warmed.alike) hp hb k1 k2 k3 (by rw [e1]; exact hce) hcv hcl T' rfl X'
    exact ⟨t2, st.trans a1, b1⟩
/-- caught by the row x of this method's table; the rows ahead don't take it -/
theorem vx_catch {own name : String} {E : String} {ce : Cell} {q : Addr} (hown : s.vm.findClass own = some m.cls) (pre : List ExceptionTableEntry) (x : ExceptionTableEntry) (suf : List ExceptionTableEntry) (hsplit : c.exceptionTable.toList = pre ++ x :: suf)
    (hpass : ∀ z ∈ pre, covers z pc = false ∨ (z.catchType ≠ 0 ∧ ∃ nm : String, (Cond.classLink own z.catchType nm).before args s = true ∧ va_Nc E nm s)) (hx : covers x pc = true) (h0 : x.catchType ≠ 0)
    (hlink : (Cond.classLink own x.catchType name).before args s = true) (hcast : (Cond.castable E name).before args s = true) (hcell : H[q]? = some ce) (hv : ce.vm = .none) (hcl : s.vm.findClass E = some ce.cls)
    (kk : W p l e R s m args below meth c H locs cells slots Q (F0 m x.handlerPc ls [.ref q])) : vx_W p l e R s m args below meth c H locs cells slots Q (F0 m pc ls rest) q := by
  intro T hT X
  have hpl : e.platform.magicAccessors = ({} : Platform).magicAccessors := by rw [X.admits.platform]
  obtain ⟨c3, c4, hc3, hc4, hasg⟩ := Cond.castable_spec hcast
  cases Option.some.inj (hc3.symm.trans hcl)
  obtain ⟨c5, hc5, hcl5⟩ := Cond.classLink_spec hown hlink e.platform hpl
  cases Option.some.inj (hc4.symm.trans hc5)
  obtain ⟨vm', X', st⟩ := X.thenCaughtThrough q (g := F0 m pc ls rest) rfl (Steps.refl _) (by rw [hT]; exact hcell) (by rw [hv]; rfl) (by obtain ⟨k9, h9, -⟩ := Vm.findClass_spec hcl; exact ⟨k9, h9⟩) pre x suf hsplit
    (fun z hz => by
      rcases hpass z hz with h | ⟨hz0, nm, hl1, hn1⟩
      · exact Or.inl h
      · obtain ⟨c6, hc6, hcl6⟩ := Cond.classLink_spec hown hl1 e.platform hpl
        obtain ⟨a8, b8, h1, h2, h3⟩ := hn1
        cases Option.some.inj (h1.symm.trans hcl)
        cases Option.some.inj (h2.symm.trans hc6)
        exact Or.inr ⟨hz0, _, hcl6, h3⟩) hx (Or.inr ⟨h0, c4, hcl5, hasg⟩)
  obtain ⟨t, a1, b1⟩ := kk (T.setVm vm') hT X'
  exact ⟨t, st.trans a1, b1⟩
end Rows
section Ends
variable {p : Program} {l : Launch} {e : Env} {R : Room} {s : State} {m : MethodId} {args : Array Value} {below : List Frame} {meth : Method} {c : Code} {H : Heap} {locs : List Loc} {cells slots : Nat} {Q : State → Prop}
variable {mc ms : Nat} {free : Addr → Prop} {A0 A1 : Nat → Prop} {H0 : Heap} {a : Array Value} {ls : Array Slot} {st0 rest : List Value}
variable {Qc : Array Value → State → Outcome → State → Prop} {XC : String → State → State → Prop}
/-- what a body that may throw owes at its end -/
def vx_MQ (below : List Frame) (Qc : Array Value → State → Outcome → State → Prop) (XC : String → State → State → Prop) (a : Array Value) (s : State) (mc ms : Nat) (free : Addr → Prop) : State → Prop := fun t =>
  ∃ o, t.status = .running ∧ Ended t below o ∧ vx_Q Qc XC mc ms free a s o t
theorem vx_ret {g : JFrame} {mc ms : Nat} (k : W p l e R s m args below meth c H locs cells slots (MQ below Qc args s mc ms free) g) : W p l e R s m args below meth c H locs cells slots (vx_MQ below Qc XC args s mc ms free) g := by
  intro T hT X
  obtain ⟨t, a1, o, b1, b2, b3, b4⟩ := k T hT X
  exact ⟨t, a1, o, b1, b2, Or.inl ⟨b3, b4⟩⟩
/-- not caught here: it goes on to the caller -/
theorem vx_widen {g : JFrame} {q : Addr} {k n : Nat} (h1 : cells ≤ k) (h2 : slots ≤ n) (kk : vx_W p l e R s m args below meth c H locs k n Q g q) : vx_W p l e R s m args below meth c H locs cells slots Q g q := fun T hT X => kk T hT (stand_widen X h1 h2)
theorem vx_out {pc : Nat} {E : String} {ce : Cell} {q : Addr} {mc ms : Nat} (hout : ∀ x ∈ c.exceptionTable.toList, covers x pc = false) (hlocks : meth.locks = false) (hcell : H[q]? = some ce) (hv : ce.vm = .none) (hcl : s.vm.findClass E = some ce.cls)
    (hx : ∀ t : State, t.heap = H → s.vm.Alike t.vm → XC E s t) (hf : ∀ z ∈ locs, free z.base) (hc : cells ≤ mc) (hs : slots ≤ ms) :
    vx_W p l e R s m args below meth c H locs cells slots (vx_MQ below Qc XC args s mc ms free) (F0 m pc ls rest) q := by
  intro T hT X
  obtain ⟨st1, hrun, hend, hW, hsm⟩ := X.leaveThrown q (g := F0 m pc ls rest) rfl rfl rfl hout hlocks
  have hcell9 : (T.setFrames (.throwing q :: below)).heap[q]? = some ce := by
    show T.heap[q]? = some ce
    rw [hT]; exact hcell
  exact ⟨_, st1, .threw q, hrun, hend, Or.inr ⟨q, rfl, E, ce, locs, hx _ hT hW.alike, hcell9, hv, hcl, hW, hsm.mono hc hs, hf⟩⟩
theorem vx_frame {U : State} {k n : Nat} (h : s.sameButNew ({ U with vm := s.vm } : State) locs k n) : s.heap.size ≤ U.heap.size ∧ ∀ q : Nat, q < s.heap.size → (∀ z ∈ locs, z.base ≠ q) → U.heap[q]? = s.heap[q]? := by
  obtain ⟨-, h2, -, -, -, h6⟩ := h
  refine ⟨h2, fun q hq hz => ?_⟩
  obtain ⟨c9, e1, e2, e3, e4⟩ := h6 q _ (Array.getElem?_eq_getElem hq)
  have hs : c9.slots = (s.heap[q]).slots := Array.ext_getElem? fun i => e4 i fun hm => hz _ hm rfl
  have h9 : c9 = s.heap[q] := by
    rw [hs] at e2
    exact e2
  have e5 : U.heap[q]? = some c9 := e1
  rw [e5, h9, Array.getElem?_eq_getElem hq]
/-- the words of a throw but the four that speak of the heap -/
def vx_no (w : Cond) : Bool := decide (w ≠ .isRef (.static Bundle.tN "UNASSIGNED_STACK" Bundle.steD)) && decide (w ≠ .isRef (.static Bundle.tN "SUPPRESSED_SENTINEL" Bundle.listD)) && decide (w ≠ .laysStatic Bundle.tN "UNASSIGNED_STACK" Bundle.steD) && decide (w ≠ .laysStatic Bundle.tN "SUPPRESSED_SENTINEL" Bundle.listD)
def vx_at0 (own : String) (ic : Nat) (X : String) (names : List String) : List Cond := (Bundle.ownAtoms0 own ic X names).filter vx_no
def vx_atS (own : String) (ic : Nat) (X : String) (names : List String) : List Cond := (Bundle.ownAtoms own ic X names).filter vx_no
/-- a word that the tables alone decide, or a good one -/
def vx_ot (w : Cond) : Bool := w.onTables || goodWord w
theorem vx_ot_at {args a' : Array Value} {s U : State} {w : Cond} (hW : s.WarmedH U.vm) (hvm : s.vm = U.vm) (hg : vx_ot w = true) (h : w.before args s = true) : w.before a' U = true := by
  simp only [vx_ot, Bool.or_eq_true] at hg
  rcases hg with hg | hg
  · exact va_tabs hg hvm h
  · exact word_at hW (good_of_word hg) h
/-- a list's words: the good ones out of the method's own list, the others by premises of their own -/
theorem vx_hat {args : Array Value} {s : State} {L B : List Cond} (h1 : ∀ w ∈ L.filter goodWord, w.before args s = true) (h2 : ∀ w ∈ L.filter (fun w => !goodWord w), w ∈ B) (h3 : ∀ w ∈ B, w.before args s = true) : ∀ w ∈ L, w.before args s = true := by
  intro w hw
  by_cases g : goodWord w = true
  · exact h1 w (List.mem_filter.mpr ⟨hw, g⟩)
  · refine h3 w (h2 w (List.mem_filter.mpr ⟨hw, ?_⟩))
    show (!goodWord w) = true
    cases hgw : goodWord w
    · rfl
    · exact absurd hgw g
theorem vx_c {args : Array Value} {s : State} {w : Cond} {B : List Cond} (h : w.before args s = true) (t : ∀ w ∈ B, w.before args s = true) : ∀ w' ∈ w :: B, w'.before args s = true := fun w' h' => (List.mem_cons.mp h').elim (fun e => by rw [e]; exact h) (t w')
theorem vx_n {args : Array Value} {s : State} : ∀ w ∈ ([] : List Cond), w.before args s = true := fun _ h => nomatch h
theorem vx_own {args : Array Value} {s : State} {L : List Cond} (h1 : ∀ w ∈ L.filter vx_no, w.before args s = true)
    (hU : (Cond.isRef (.static Bundle.tN "UNASSIGNED_STACK" Bundle.steD)).before args s = true) (hN : (Cond.isRef (.static Bundle.tN "SUPPRESSED_SENTINEL" Bundle.listD)).before args s = true)
    (lU : (Cond.laysStatic Bundle.tN "UNASSIGNED_STACK" Bundle.steD).before args s = true) (lN : (Cond.laysStatic Bundle.tN "SUPPRESSED_SENTINEL" Bundle.listD).before args s = true) : ∀ w ∈ L, w.before args s = true := by
  intro w hw
  by_cases e1 : w = .isRef (.static Bundle.tN "UNASSIGNED_STACK" Bundle.steD)
  · rw [e1]; exact hU
  · by_cases e2 : w = .isRef (.static Bundle.tN "SUPPRESSED_SENTINEL" Bundle.listD)
    · rw [e2]; exact hN
    · by_cases e3 : w = .laysStatic Bundle.tN "UNASSIGNED_STACK" Bundle.steD
      · rw [e3]; exact lU
      · by_cases e4 : w = .laysStatic Bundle.tN "SUPPRESSED_SENTINEL" Bundle.listD
        · rw [e4]; exact lN
        · exact h1 w (List.mem_filter.mpr ⟨hw, by unfold vx_no; rw [decide_eq_true e1, decide_eq_true e2, decide_eq_true e3, decide_eq_true e4]; rfl⟩)
/-- where a static field lies, its class's statics cell in H -/
def vx_L (C n d : String) (A : Nat → Prop) (U : State) (H : Heap) : Prop := ∃ (c : ClassId) (k : Class) (i : Nat) (f : Field) (a : Nat) (cell : Cell), U.vm.findClass C = some c ∧ U.fieldFound? C n d = some (c, k, i, f) ∧ f.isStatic = true ∧ k.statics = some a ∧ H[a]? = some cell ∧ cell.vm.isStatics = true ∧ cell.cls = c ∧ f.slot < cell.slots.size ∧ k.staticTypes[f.slot]? = some f.type ∧ ¬ A a
theorem vx_L.moved {C n d : String} {A : Nat → Prop} {u U : State} {H : Heap} (hvm : u.vm.Alike U.vm) (h : vx_L C n d A u H) : vx_L C n d A U H := by
  obtain ⟨c, k, i, f, a, cell, h1, h2, h3, h4, h5, h6, h7, h8, h9, h10⟩ := h
  obtain ⟨k', hi', he⟩ := State.fieldFound?_setVm hvm h2
  exact ⟨c, k', i, f, a, cell, by rw [hvm.findClass]; exact h1, hi', h3, by rw [he]; exact h4, h5, h6, h7, h8, by rw [he]; exact h9, h10⟩
theorem vx_L.kept {C n d : String} {A : Nat → Prop} {U : State} {H H1 : Heap} (h : vx_L C n d A U H) (hq : ∀ a : Nat, a < H.size → ¬ A a → H1[a]? = H[a]?) : vx_L C n d A U H1 := by
  obtain ⟨c, k, i, f, a, cell, h1, h2, h3, h4, h5, h6, h7, h8, h9, h10⟩ := h
  exact ⟨c, k, i, f, a, cell, h1, h2, h3, h4, by rw [hq a (Array.getElem?_eq_some_iff.mp h5).1 h10]; exact h5, h6, h7, h8, h9, h10⟩
theorem vx_L.narrow {C n d : String} {A B : Nat → Prop} {U : State} {H : Heap} (h : vx_L C n d A U H) (hAB : ∀ q, B q → A q) : vx_L C n d B U H := by
  obtain ⟨c, k, i, f, a, cell, h1, h2, h3, h4, h5, h6, h7, h8, h9, h10⟩ := h
  exact ⟨c, k, i, f, a, cell, h1, h2, h3, h4, h5, h6, h7, h8, h9, fun z => h10 (hAB _ z)⟩
theorem vx_L.word {C n d : String} {A : Nat → Prop} {s : State} {args : Array Value} (h : vx_L C n d A s s.heap) : (Cond.laysStatic C n d).before args s = true := by
  obtain ⟨c, k, i, f, a, cell, h1, h2, h3, h4, h5, h6, h7, h8, h9, -⟩ := h
  show (Cond.laysStatic C n d).holds args s none s [] = true
  exact Cond.laysStatic_of h1 h2 h3 h4 h5 h6 h7 h8 h9
/-- .. and what it holds: null or some reference -/
def vx_Zq (C n d : String) (A : Nat → Prop) (U : State) (H : Heap) : Prop := va_Zq C n d A U H ∧ vx_L C n d A U H
theorem vx_Zq.moved {C n d : String} {A : Nat → Prop} {u U : State} {H : Heap} (hvm : u.vm.Alike U.vm) (h : vx_Zq C n d A u H) : vx_Zq C n d A U H := ⟨va_Zq.moved hvm h.1, vx_L.moved hvm h.2⟩
theorem vx_Zq.kept {C n d : String} {A : Nat → Prop} {U : State} {H H1 : Heap} (h : vx_Zq C n d A U H) (hq : ∀ a : Nat, a < H.size → ¬ A a → H1[a]? = H[a]?) : vx_Zq C n d A U H1 := ⟨va_Zq.kept h.1 hq, vx_L.kept h.2 hq⟩
theorem vx_Zq.narrow {C n d : String} {A B : Nat → Prop} {U : State} {H : Heap} (h : vx_Zq C n d A U H) (hAB : ∀ q, B q → A q) : vx_Zq C n d B U H := ⟨va_Zq.narrow h.1 hAB, vx_L.narrow h.2 hAB⟩
theorem vx_Zqof {args : Array Value} {s : State} {C n d : String} {A : Nat → Prop} (hl : (Cond.laysStatic C n d).before args s = true) (hini : (Cond.initialized C).before args s = true) (h : (Cond.isRef (.static C n d)).before args s = true) (hA : ∀ a : Nat, a < s.heap.size → ¬ A a) : vx_Zq C n d A s s.heap := by
  refine ⟨va_Zqof hl hini h hA, ?_⟩
  obtain ⟨c, k, i, f, a, cell, h1, h2, h3, h4, h5, h6, h7, h8, h9⟩ := Cond.laysStatic_spec hl
  exact ⟨c, k, i, f, a, cell, h1, h2, h3, h4, h5, h6, h7, h8, h9, hA a (Array.getElem?_eq_some_iff.mp h5).1⟩
theorem vx_isRef {C n d : String} {v : Value} {A : Nat → Prop} {s : State} {args : Array Value} (h : va_Z C n d v A s s.heap) (hv : v.isRef = true) : (Cond.isRef (.static C n d)).before args s = true := by
  obtain ⟨cf, kf, fi, f, a, cell, h1, h2, h3, h4, h5, h6, h7, -⟩ := h
  have he : (Term.static C n d).eval args s none [] s = some v := by
    simp [Term.eval, State.fieldNamed?, h1, h2, h4, h5, h6, h7]
  simp only [Cond.before, Cond.holds, Cond.value, he]
  cases v <;> simp_all [Value.isRef]
theorem vx_isRefq {C n d : String} {A : Nat → Prop} {s : State} {args : Array Value} (h : va_Zq C n d A s s.heap) : (Cond.isRef (.static C n d)).before args s = true := by
  rcases h with h | ⟨t, h⟩
  · exact vx_isRef h rfl
  · exact vx_isRef h rfl
/-- the same frame, seen from here: as if the method were called anew in this heap -/
theorem vx_rebase {T : State} (X : Stand p l e R s m args below meth c T locs cells slots) {R' : Room} (hf : R'.frames ≤ R.frames) (hl : R'.locals ≤ R.locals) (hc : cells + R'.cells ≤ R.cells) (hs : slots + R'.slots ≤ R.slots) :
    Stand p l e R' ((T.setVm s.vm).setFrames (.invoking m args :: below)) m args below meth c T [] 0 0 := by
  have htop : (T.setVm s.vm).topJava?.isSome := X.here.top
  have hF : ((T.setVm s.vm).setFrames (.invoking m args :: below)).frames = .invoking m args :: below := State.frames_setFrames _ (State.cur_lt_of_top htop)
  obtain ⟨g₀, hg0⟩ := Option.isSome_iff_exists.mp htop
  obtain ⟨r, hr⟩ := State.topJava?_eq_some.mp hg0
  have hl9 : e.platform.stackLimits (T.setVm s.vm).me = e.platform.stackLimits s.me := X.limits
  have hb9 : (T.setVm s.vm).me.stackBytes = s.me.stackBytes := X.bytes
  refine ⟨X.admits, X.cas, X.clock, hF, ?_, X.hears, X.method, X.code, X.here, X.tail, X.warmed, ?_, ?_, ?_⟩
  · have h := X.room
    have hU : ((T.setVm s.vm).setFrames (.invoking m args :: below)).localsInUse = s.localsInUse := by
      rw [State.localsInUse_invoking hF (meth := meth) (c := c) X.method X.code, State.localsInUse_invoking X.frames X.method X.code]
    simp only [State.hasRoom, Bool.and_eq_true, decide_eq_true_eq] at h ⊢
    obtain ⟨⟨⟨⟨h1, h2, h3, h4, h5, h6⟩, h7⟩, h8⟩, h9⟩ := h
    rw [X.frames, List.length_cons] at h2 h3
    have q1 := X.heapSize
    have q2 := X.used
    simp only [hF, hU, List.length_cons, State.stackLimits_setFrames, State.stackBytes_setFrames, hl9, hb9]
    refine ⟨⟨⟨⟨by omega, by omega, by omega, by omega, by omega, h6⟩, ?_⟩, ?_⟩, X.book⟩
    · show T.heap.size + R'.cells ≤ e.platform.maxCells
      omega
    · show T.slotsUsed + R'.slots ≤ e.platform.maxSlots
      omega
  · rw [State.stackLimits_setFrames]; rfl
  · rw [State.stackBytes_setFrames]; rfl
  · refine ⟨?_, Nat.le_refl _, Nat.le_refl _, ?_, ?_, fun a c9 h9 => ⟨c9, h9, rfl, rfl, fun _ _ => rfl⟩⟩
    · obtain ⟨t, ht, -⟩ := State.frames_cons hr
      show T.setVm s.vm = { ((T.setVm s.vm).setFrames (.invoking m args :: below)).setFrames (T.setVm s.vm).frames with heap := T.heap, slotsUsed := T.slotsUsed }
      rw [State.setFrames_setFrames, State.setFrames_self ht]
      rfl
    · show T.slotsUsed = T.slotsUsed + ((T.heap.toList.drop T.heap.size).map (·.slots.size)).sum
      rw [List.drop_eq_nil_of_le (Nat.le_of_eq Array.length_toList)]
      rfl
    · show ((T.heap.toList.drop T.heap.size).map (·.slots.size)).sum ≤ 0
      rw [List.drop_eq_nil_of_le (Nat.le_of_eq Array.length_toList)]
      exact Nat.le_refl _
/-- 'throw new E()': new; dup; invokespecial; athrow -/
theorem vx_throw0 {cc : ByteArray} {pc : Nat} (hexec : p.tables.exec = Jvm.exec) (hb : c.code = cc) (hl : l.stackTraces = false) {own cls : String} {names : List String} {ik ic mc ms : Nat} {A : Nat → Prop}
    (hown : s.vm.findClass own = some m.cls) (hcls : Bundle.fit cls = true) (hnames : ∀ n ∈ names, Bundle.fit n = true)
    (hk : (Cond.classLink own ik cls).before args s = true) (hini : (Cond.initialized cls).before args s = true) (hat : ∀ w ∈ vx_at0 own ic cls names, w.before args s = true)
    (hgood : ∀ w ∈ Cond.classLink own ik cls :: Cond.initialized cls :: vx_at0 own ic cls names, vx_ot w = true)
    (hU : vx_Zq Bundle.tN "UNASSIGNED_STACK" Bundle.steD A s s.heap) (hN : vx_Zq Bundle.tN "SUPPRESSED_SENTINEL" Bundle.listD A s s.heap) (hS : va_S A s.heap H locs) (hsize : ls.size = c.maxLocals)
    (d0 : decode cc pc = .ok (.new ik, 3)) (d3 : decode cc (pc + 3) = .ok (.dup, 1)) (d4 : decode cc (pc + 4) = .ok (.invokespecial ic, 3)) (d7 : decode cc (pc + 7) = .ok (.athrow, 1))
    (hout : ∀ x ∈ c.exceptionTable.toList, covers x (pc + 7) = false)
    (hRframes : names.length + 3 < R.frames) (hRlocals : (rest.map fun v => v.category).sum + (13 * (names.length + 1) + 42) ≤ R.locals) (hRcells : cells + 1 ≤ R.cells) (hRslots : slots + 6 ≤ R.slots) (hlocks : meth.locks = false)
    (hx : ∀ t : State, s.vm.Alike t.vm → H.size ≤ t.heap.size → (∀ q : Nat, q < H.size → t.heap[q]? = H[q]?) → XC cls s t)
    (hf : ∀ z ∈ locs, free z.base) (hc : cells + 1 ≤ mc) (hs : slots + 6 ≤ ms) :
    W p l e R s m args below meth c H locs cells slots (vx_MQ below Qc XC args s mc ms free) (F0 m pc ls rest) := by
  intro T hT X
  have htr : e.platform.stackTraces = false := (show e.platform.stackTraces = l.stackTraces by rw [X.admits.platform]).trans hl
  have Y := vx_rebase X (R' := { frames := R.frames, locals := R.locals, cells := 1, slots := 6 }) (Nat.le_refl _) (Nat.le_refl _) hRcells hRslots
  obtain ⟨s', hA⟩ : ∃ z, z = (T.setVm s.vm).setFrames (.invoking m args :: below) := ⟨_, rfl⟩
  rw [← hA] at Y
  have hvm : s'.vm = s.vm := by rw [hA]; rfl
  have hhp : s'.heap = H := by rw [hA]; exact hT
  have hW0 : s.WarmedH s'.vm := by rw [hvm]; exact State.WarmedH.refl s
  have hat' : ∀ w ∈ vx_at0 own ic cls names, w.before args s' = true := fun w hw => vx_ot_at hW0 hvm.symm (hgood w (List.mem_cons_of_mem _ (List.mem_cons_of_mem _ hw))) (hat w hw)
  have hk' : (Cond.classLink own ik cls).before args s' = true := vx_ot_at hW0 hvm.symm (hgood _ List.mem_cons_self) hk
  have hini' : (Cond.initialized cls).before args s' = true := vx_ot_at hW0 hvm.symm (hgood _ (List.mem_cons_of_mem _ List.mem_cons_self)) hini
  have hU' : vx_Zq Bundle.tN "UNASSIGNED_STACK" Bundle.steD A s' s'.heap := by rw [hhp]; exact vx_Zq.moved hW0.alike (hU.kept hS.2.1)
  have hN' : vx_Zq Bundle.tN "SUPPRESSED_SENTINEL" Bundle.listD A s' s'.heap := by rw [hhp]; exact vx_Zq.moved hW0.alike (hN.kept hS.2.1)
  have h : ∀ w ∈ Bundle.ownAtoms0 own ic cls names, w.before args s' = true := vx_own hat' (vx_isRefq hU'.1) (vx_isRefq hN'.1) hU'.2.word hN'.2.word
  have hown' : s'.vm.findClass own = some m.cls := by rw [hvm]; exact hown
  have hins : (Cond.instantiable cls 6).before args s' = true := h _ (by simp [Bundle.ownAtoms0])
  obtain ⟨vm₁, cX, kX, hfX, hkX, -, -, X₁, st1⟩ := Y.newCold hexec (own := own) (C := cls) (index := ik) (n := 6) hown' hk' hins hini'
    (g := F0 m pc ls rest) rfl (by rw [hb]; exact d0) (Nat.le_refl _) (Nat.le_refl _)
  generalize hT1 : (T.setVm vm₁).pushCell { cls := cX, slots := kX.instanceTypes.map defaultValue, vm := .none } = T1 at X₁ st1
  have hcat : (Value.ref T.heap.size).category = 1 := rfl
  have hcellA : T1.heap[T.heap.size]? = some (freshCell cX kX) := by rw [← hT1]; exact State.heap_pushCell_size _ _
  have d3' : decode c.code (pc + 3) = .ok (.dup, 1) := by rw [hb]; exact d3
  obtain ⟨U, hsteps, hrun, hend, hW, hsame, ce, hce, hO⟩ := X₁.ctorThrow0 hexec htr (own := own) (cls := cls) (names := names) (ic := ic) hown' hcls hnames h (fun x hx => nomatch hx) hfX hkX hcellA (by rw [hhp, hT]; exact Nat.le_refl _)
    (g := { method := m, pc := pc + 4, locals := ls, stack := .ref T.heap.size :: .ref T.heap.size :: rest, locked := none }) rfl hsize rfl rfl (rest := rest) rfl
    (by rw [hb]; exact d4) (by rw [hb]; exact d7) hout hRframes (by simp only [List.map_cons, List.sum_cons, hcat]; omega) hlocks
  obtain ⟨f1, f2⟩ := vx_frame hsame
  rw [hhp] at f1 f2
  have hWs : s.WarmedH U.vm := State.WarmedH.trans hW0 hW
  have hcl : s.vm.findClass cls = some ce.cls := by
    have h9 := hO.cls
    rw [hvm] at h9
    exact h9
  have hall : s.sameButNew ({ U with vm := s.vm } : State) locs mc ms := by
    subst hA
    obtain ⟨e1, e2⟩ := hsame
    rw [State.setFrames_setFrames] at e1
    have h2 : (T.setVm s.vm).sameButNew ({ U with vm := s.vm } : State) [] (0 + 1) (0 + 6) := ⟨e1, e2⟩
    have h3 := X.same.trans h2
    rw [List.append_nil] at h3
    exact h3.mono hc hs
  refine ⟨U, ?_, .threw T.heap.size, hrun, hend, Or.inr ⟨T.heap.size, rfl, cls, ce, locs, hx U hWs.alike f1 (fun q hq => f2 q hq (fun z hz => nomatch hz)), hce, hO.vm, hcl, hWs, hall, hf⟩⟩
  refine st1 _ ?_
  show Steps p.tables e below (T1.setTop { method := m, pc := pc + 3, locals := ls, stack := .ref T.heap.size :: rest, locked := none }) _
  jvm_step X₁.here [X₁.here.top, hexec, d3', Value.category]
  exact hsteps
/-- 'throw new E("text")': new; dup; ldc; invokespecial; athrow -/
theorem vx_throwS {cc : ByteArray} {pc : Nat} (hexec : p.tables.exec = Jvm.exec) (hb : c.code = cc) (hl : l.stackTraces = false) {own cls text : String} {names : List String} {ik is ic mc ms sa : Nat} {A : Nat → Prop}
    (hown : s.vm.findClass own = some m.cls) (hcls : Bundle.fit cls = true) (hnames : ∀ n ∈ names, Bundle.fit n = true)
    (hk : (Cond.classLink own ik cls).before args s = true) (hini : (Cond.initialized cls).before args s = true) (hstr : vk_R own is text sa s) (hat : ∀ w ∈ vx_atS own ic cls names, w.before args s = true)
    (hgood : ∀ w ∈ Cond.classLink own ik cls :: Cond.initialized cls :: vx_atS own ic cls names, vx_ot w = true)
    (hU : vx_Zq Bundle.tN "UNASSIGNED_STACK" Bundle.steD A s s.heap) (hN : vx_Zq Bundle.tN "SUPPRESSED_SENTINEL" Bundle.listD A s s.heap) (hS : va_S A s.heap H locs) (hsize : ls.size = c.maxLocals)
    (d0 : decode cc pc = .ok (.new ik, 3)) (d3 : decode cc (pc + 3) = .ok (.dup, 1)) (d4 : decode cc (pc + 4) = .ok (.ldc is, 2)) (d6 : decode cc (pc + 6) = .ok (.invokespecial ic, 3)) (d9 : decode cc (pc + 9) = .ok (.athrow, 1))
    (hout : ∀ x ∈ c.exceptionTable.toList, covers x (pc + 9) = false)
    (hRframes : names.length + 3 < R.frames) (hRlocals : (rest.map fun v => v.category).sum + (13 * (names.length + 1) + 43) ≤ R.locals) (hRcells : cells + 1 ≤ R.cells) (hRslots : slots + 6 ≤ R.slots) (hlocks : meth.locks = false)
    (hx : ∀ t : State, s.vm.Alike t.vm → H.size ≤ t.heap.size → (∀ q : Nat, q < H.size → t.heap[q]? = H[q]?) → XC cls s t)
    (hf : ∀ z ∈ locs, free z.base) (hc : cells + 1 ≤ mc) (hs : slots + 6 ≤ ms) :
    W p l e R s m args below meth c H locs cells slots (vx_MQ below Qc XC args s mc ms free) (F0 m pc ls rest) := by
  intro T hT X
  have htr : e.platform.stackTraces = false := (show e.platform.stackTraces = l.stackTraces by rw [X.admits.platform]).trans hl
  have Y := vx_rebase X (R' := { frames := R.frames, locals := R.locals, cells := 1, slots := 6 }) (Nat.le_refl _) (Nat.le_refl _) hRcells hRslots
  obtain ⟨s', hA⟩ : ∃ z, z = (T.setVm s.vm).setFrames (.invoking m args :: below) := ⟨_, rfl⟩
  rw [← hA] at Y
  have hvm : s'.vm = s.vm := by rw [hA]; rfl
  have hhp : s'.heap = H := by rw [hA]; exact hT
  have hW0 : s.WarmedH s'.vm := by rw [hvm]; exact State.WarmedH.refl s
  have hat' : ∀ w ∈ vx_atS own ic cls names, w.before args s' = true := fun w hw => vx_ot_at hW0 hvm.symm (hgood w (List.mem_cons_of_mem _ (List.mem_cons_of_mem _ hw))) (hat w hw)
  have hk' : (Cond.classLink own ik cls).before args s' = true := vx_ot_at hW0 hvm.symm (hgood _ List.mem_cons_self) hk
  have hini' : (Cond.initialized cls).before args s' = true := vx_ot_at hW0 hvm.symm (hgood _ (List.mem_cons_of_mem _ List.mem_cons_self)) hini
  have hU' : vx_Zq Bundle.tN "UNASSIGNED_STACK" Bundle.steD A s' s'.heap := by rw [hhp]; exact vx_Zq.moved hW0.alike (hU.kept hS.2.1)
  have hN' : vx_Zq Bundle.tN "SUPPRESSED_SENTINEL" Bundle.listD A s' s'.heap := by rw [hhp]; exact vx_Zq.moved hW0.alike (hN.kept hS.2.1)
  have h : ∀ w ∈ Bundle.ownAtoms own ic cls names, w.before args s' = true := vx_own hat' (vx_isRefq hU'.1) (vx_isRefq hN'.1) hU'.2.word hN'.2.word
  have hown' : s'.vm.findClass own = some m.cls := by rw [hvm]; exact hown
  have hins : (Cond.instantiable cls 6).before args s' = true := h _ (by simp [Bundle.ownAtoms])
  obtain ⟨vm₁, cX, kX, hfX, hkX, -, -, X₁, st1⟩ := Y.newCold hexec (own := own) (C := cls) (index := ik) (n := 6) hown' hk' hins hini'
    (g := F0 m pc ls rest) rfl (by rw [hb]; exact d0) (Nat.le_refl _) (Nat.le_refl _)
  generalize hT1 : (T.setVm vm₁).pushCell { cls := cX, slots := kX.instanceTypes.map defaultValue, vm := .none } = T1 at X₁ st1
  have hcat : (Value.ref T.heap.size).category = 1 := rfl
  have hcellA : T1.heap[T.heap.size]? = some (freshCell cX kX) := by rw [← hT1]; exact State.heap_pushCell_size _ _
  have d3' : decode c.code (pc + 3) = .ok (.dup, 1) := by rw [hb]; exact d3
  have d4' : decode c.code (pc + 4) = .ok (.ldc is, 2) := by rw [hb]; exact d4
  have hstr' : vk_R own is text sa s' := vk_R.warm hW0 hstr
  obtain ⟨U, hsteps, hrun, hend, hW, hsame, ce, hce, hO⟩ := X₁.ctorThrowS hexec htr (own := own) (cls := cls) (names := names) (ic := ic) hown' hcls hnames h (fun x hx => nomatch hx) hfX hkX hcellA (by rw [hhp, hT]; exact Nat.le_refl _) (msg := .ref sa) rfl
    (g := { method := m, pc := pc + 6, locals := ls, stack := .ref sa :: .ref T.heap.size :: .ref T.heap.size :: rest, locked := none }) rfl hsize rfl rfl (rest := rest) rfl
    (by rw [hb]; exact d6) (by rw [hb]; exact d9) hout hRframes (by simp only [List.map_cons, List.sum_cons, hcat]; omega) hlocks
  obtain ⟨f1, f2⟩ := vx_frame hsame
  rw [hhp] at f1 f2
  have hWs : s.WarmedH U.vm := State.WarmedH.trans hW0 hW
  have hcl : s.vm.findClass cls = some ce.cls := by
    have h9 := hO.cls
    rw [hvm] at h9
    exact h9
  have hall : s.sameButNew ({ U with vm := s.vm } : State) locs mc ms := by
    subst hA
    obtain ⟨e1, e2⟩ := hsame
    rw [State.setFrames_setFrames] at e1
    have h2 : (T.setVm s.vm).sameButNew ({ U with vm := s.vm } : State) [] (0 + 1) (0 + 6) := ⟨e1, e2⟩
    have h3 := X.same.trans h2
    rw [List.append_nil] at h3
    exact h3.mono hc hs
  refine ⟨U, ?_, .threw T.heap.size, hrun, hend, Or.inr ⟨T.heap.size, rfl, cls, ce, locs, hx U hWs.alike f1 (fun q hq => f2 q hq (fun z hz => nomatch hz)), hce, hO.vm, hcl, hWs, hall, hf⟩⟩
  refine st1 _ ?_
  show Steps p.tables e below (T1.setTop { method := m, pc := pc + 3, locals := ls, stack := .ref T.heap.size :: rest, locked := none }) _
  jvm_step X₁.here [X₁.here.top, hexec, d3', Value.category]
  exact X₁.ldcString hexec (own := own) (text := text) (index := is) (a := sa) hown' hstr'.1 hstr'.2
    (g := { method := m, pc := pc + 4, locals := ls, stack := .ref T.heap.size :: .ref T.heap.size :: rest, locked := none }) rfl d4' _ hsteps
/-- 'throw new E("text")', the text by a wide index -/
theorem vx_throwSW {cc : ByteArray} {pc : Nat} (hexec : p.tables.exec = Jvm.exec) (hb : c.code = cc) (hl : l.stackTraces = false) {own cls text : String} {names : List String} {ik is ic mc ms sa : Nat} {A : Nat → Prop}
    (hown : s.vm.findClass own = some m.cls) (hcls : Bundle.fit cls = true) (hnames : ∀ n ∈ names, Bundle.fit n = true)
    (hk : (Cond.classLink own ik cls).before args s = true) (hini : (Cond.initialized cls).before args s = true) (hstr : vk_R own is text sa s) (hat : ∀ w ∈ vx_atS own ic cls names, w.before args s = true)
    (hgood : ∀ w ∈ Cond.classLink own ik cls :: Cond.initialized cls :: vx_atS own ic cls names, vx_ot w = true)
    (hU : vx_Zq Bundle.tN "UNASSIGNED_STACK" Bundle.steD A s s.heap) (hN : vx_Zq Bundle.tN "SUPPRESSED_SENTINEL" Bundle.listD A s s.heap) (hS : va_S A s.heap H locs) (hsize : ls.size = c.maxLocals)
    (d0 : decode cc pc = .ok (.new ik, 3)) (d3 : decode cc (pc + 3) = .ok (.dup, 1)) (d4 : decode cc (pc + 4) = .ok (.ldc_w is, 3)) (d7 : decode cc (pc + 7) = .ok (.invokespecial ic, 3)) (d10 : decode cc (pc + 10) = .ok (.athrow, 1))
    (hout : ∀ x ∈ c.exceptionTable.toList, covers x (pc + 10) = false)
    (hRframes : names.length + 3 < R.frames) (hRlocals : (rest.map fun v => v.category).sum + (13 * (names.length + 1) + 43) ≤ R.locals) (hRcells : cells + 1 ≤ R.cells) (hRslots : slots + 6 ≤ R.slots) (hlocks : meth.locks = false)
    (hx : ∀ t : State, s.vm.Alike t.vm → H.size ≤ t.heap.size → (∀ q : Nat, q < H.size → t.heap[q]? = H[q]?) → XC cls s t)
    (hf : ∀ z ∈ locs, free z.base) (hc : cells + 1 ≤ mc) (hs : slots + 6 ≤ ms) :
    W p l e R s m args below meth c H locs cells slots (vx_MQ below Qc XC args s mc ms free) (F0 m pc ls rest) := by
  intro T hT X
  have htr : e.platform.stackTraces = false := (show e.platform.stackTraces = l.stackTraces by rw [X.admits.platform]).trans hl
  have Y := vx_rebase X (R' := { frames := R.frames, locals := R.locals, cells := 1, slots := 6 }) (Nat.le_refl _) (Nat.le_refl _) hRcells hRslots
  obtain ⟨s', hA⟩ : ∃ z, z = (T.setVm s.vm).setFrames (.invoking m args :: below) := ⟨_, rfl⟩
  rw [← hA] at Y
  have hvm : s'.vm = s.vm := by rw [hA]; rfl
  have hhp : s'.heap = H := by rw [hA]; exact hT
  have hW0 : s.WarmedH s'.vm := by rw [hvm]; exact State.WarmedH.refl s
  have hat' : ∀ w ∈ vx_atS own ic cls names, w.before args s' = true := fun w hw => vx_ot_at hW0 hvm.symm (hgood w (List.mem_cons_of_mem _ (List.mem_cons_of_mem _ hw))) (hat w hw)
  have hk' : (Cond.classLink own ik cls).before args s' = true := vx_ot_at hW0 hvm.symm (hgood _ List.mem_cons_self) hk
  have hini' : (Cond.initialized cls).before args s' = true := vx_ot_at hW0 hvm.symm (hgood _ (List.mem_cons_of_mem _ List.mem_cons_self)) hini
  have hU' : vx_Zq Bundle.tN "UNASSIGNED_STACK" Bundle.steD A s' s'.heap := by rw [hhp]; exact vx_Zq.moved hW0.alike (hU.kept hS.2.1)
  have hN' : vx_Zq Bundle.tN "SUPPRESSED_SENTINEL" Bundle.listD A s' s'.heap := by rw [hhp]; exact vx_Zq.moved hW0.alike (hN.kept hS.2.1)
  have h : ∀ w ∈ Bundle.ownAtoms own ic cls names, w.before args s' = true := vx_own hat' (vx_isRefq hU'.1) (vx_isRefq hN'.1) hU'.2.word hN'.2.word
  have hown' : s'.vm.findClass own = some m.cls := by rw [hvm]; exact hown
  have hins : (Cond.instantiable cls 6).before args s' = true := h _ (by simp [Bundle.ownAtoms])
  obtain ⟨vm₁, cX, kX, hfX, hkX, -, -, X₁, st1⟩ := Y.newCold hexec (own := own) (C := cls) (index := ik) (n := 6) hown' hk' hins hini'
    (g := F0 m pc ls rest) rfl (by rw [hb]; exact d0) (Nat.le_refl _) (Nat.le_refl _)
  generalize hT1 : (T.setVm vm₁).pushCell { cls := cX, slots := kX.instanceTypes.map defaultValue, vm := .none } = T1 at X₁ st1
  have hcat : (Value.ref T.heap.size).category = 1 := rfl
  have hcellA : T1.heap[T.heap.size]? = some (freshCell cX kX) := by rw [← hT1]; exact State.heap_pushCell_size _ _
  have d3' : decode c.code (pc + 3) = .ok (.dup, 1) := by rw [hb]; exact d3
  have d4' : decode c.code (pc + 4) = .ok (.ldc_w is, 3) := by rw [hb]; exact d4
  have hstr' : vk_R own is text sa s' := vk_R.warm hW0 hstr
  obtain ⟨U, hsteps, hrun, hend, hW, hsame, ce, hce, hO⟩ := X₁.ctorThrowS hexec htr (own := own) (cls := cls) (names := names) (ic := ic) hown' hcls hnames h (fun x hx => nomatch hx) hfX hkX hcellA (by rw [hhp, hT]; exact Nat.le_refl _) (msg := .ref sa) rfl
    (g := { method := m, pc := pc + 7, locals := ls, stack := .ref sa :: .ref T.heap.size :: .ref T.heap.size :: rest, locked := none }) rfl hsize rfl rfl (rest := rest) rfl
    (by rw [hb]; exact d7) (by rw [hb]; exact d10) hout hRframes (by simp only [List.map_cons, List.sum_cons, hcat]; omega) hlocks
  obtain ⟨f1, f2⟩ := vx_frame hsame
  rw [hhp] at f1 f2
  have hWs : s.WarmedH U.vm := State.WarmedH.trans hW0 hW
  have hcl : s.vm.findClass cls = some ce.cls := by
    have h9 := hO.cls
    rw [hvm] at h9
    exact h9
  have hall : s.sameButNew ({ U with vm := s.vm } : State) locs mc ms := by
    subst hA
    obtain ⟨e1, e2⟩ := hsame
    rw [State.setFrames_setFrames] at e1
    have h2 : (T.setVm s.vm).sameButNew ({ U with vm := s.vm } : State) [] (0 + 1) (0 + 6) := ⟨e1, e2⟩
    have h3 := X.same.trans h2
    rw [List.append_nil] at h3
    exact h3.mono hc hs
  refine ⟨U, ?_, .threw T.heap.size, hrun, hend, Or.inr ⟨T.heap.size, rfl, cls, ce, locs, hx U hWs.alike f1 (fun q hq => f2 q hq (fun z hz => nomatch hz)), hce, hO.vm, hcl, hWs, hall, hf⟩⟩
  refine st1 _ ?_
  show Steps p.tables e below (T1.setTop { method := m, pc := pc + 3, locals := ls, stack := .ref T.heap.size :: rest, locked := none }) _
  jvm_step X₁.here [X₁.here.top, hexec, d3', Value.category]
  exact X₁.ldcStringW hexec (own := own) (text := text) (index := is) (a := sa) hown' hstr'.1 hstr'.2
    (g := { method := m, pc := pc + 4, locals := ls, stack := .ref T.heap.size :: .ref T.heap.size :: rest, locked := none }) rfl d4' _ hsteps
end Ends
section Bodies
variable {l : Launch}
theorem vx_ofW {y : MethodName} {ws ws' : List Cond} {rm : Room} {Pc : Array Value → State → Prop} {Qc : Array Value → State → Outcome → State → Prop} {XC : String → State → State → Prop} {mc ms : Nat} {free : Addr → Prop} {cc : ByteArray} {maxL : Nat} {ret : Option FieldType}
    (hy : plainName y.cls = true) (hw : ws = Cond.code y cc maxL ret :: ws')
    (body : ∀ p e s m args below meth c s₁, BodyLoose p l y (headSpec ws rm) cc maxL ret e s m args below meth c s₁ → c.maxLocals = maxL → (∀ x ∈ c.exceptionTable.toList, False) → Pc args s →
      W p l e (headSpec ws rm).room s m args below meth c s.heap [] 0 0 (vx_MQ below Qc XC args s mc ms free) (entryFrame m args maxL)) : vx_Met l y ws rm Pc Qc XC mc ms free := by
  refine MetFree.of_bodyS (code := cc) (maxLocals := maxL) (ret := ret) hy ?_ ?_
  · intro args s m h hn
    obtain ⟨meth, c, h1, h2, h3, h4, h5, h6, -, -⟩ := Cond.code_spec hn (atoms_spec (ws := ws) h _ (by rw [hw]; exact List.mem_cons_self))
    exact ⟨meth, c, h1, h2, h3, h4, h5, h6⟩
  · intro p e s m args below meth c s₁ B hml hP _
    have hh0 : s₁.heap = s.heap := by rw [B.state]; rfl
    have ht : ∀ x ∈ c.exceptionTable.toList, False := by
      obtain ⟨meth9, c9, h1, h2, -, -, -, -, h7, -⟩ := Cond.code_spec B.named (atoms_spec (ws := ws) B.pre _ (by rw [hw]; exact List.mem_cons_self))
      cases Option.some.inj (h1.symm.trans B.method)
      cases Option.some.inj (h2.symm.trans (Stand.of_body B).code)
      intro x hx
      rw [Array.isEmpty_iff.mp h7] at hx
      cases hx
    obtain ⟨t, a1, o, b1, b2, b3⟩ := body p e s m args below meth c s₁ B hml ht hP s₁ hh0 (Stand.of_body B)
    exact ⟨t, o, a1, b1, b2, b3⟩
/-- the table of a body with handlers -/
theorem vx_table {p : Program} {x y : MethodName} {S : Spec} {cc bytes : ByteArray} {maxL maxL' : Nat} {ret ret' : Option FieldType} {e : Env} {s s₁ : State} {m : MethodId} {args : Array Value} {below : List Frame} {meth : Method} {c : Code} {hh : List (Nat × Nat × Nat × Nat)}
    (B : BodyLoose p l y S cc maxL ret e s m args below meth c s₁) (h : (Cond.codeWith y bytes maxL' ret' hh).before args s = true) : c.exceptionTable.toList = tableOf hh := by
  obtain ⟨m9, meth9, c9, hn9, h1, h2, -, -, h6, -⟩ := Cond.codeWith_spec h
  cases Option.some.inj (hn9.symm.trans B.named)
  cases Option.some.inj (h1.symm.trans B.method)
  cases Option.some.inj (h2.symm.trans (Stand.of_body B).code)
  rw [← h6, table_eq]
end Bodies
end VXA
/-! ===== END ===== -/
/-! ===== BEGIN a static call of a method with an exception table ===== -/
section VXS
variable {p : Program} {l : Launch} {e : Env} {R : Room} {s : State} {m : MethodId} {args : Array Value} {below : List Frame} {meth : Method} {c : Code} {T : State} {H : Heap} {locs : List Loc} {cells slots : Nat}
abbrev vx_CSW (R : Room) (s : State) (args : Array Value) (own : String) (index : Nat) (y : MethodName) (bytes : ByteArray) (maxL : Nat) (ret : Option FieldType) (hh : List (Nat × Nat × Nat × Nat)) (ws : List Cond) (rm : Room) (mc ms n : Nat) : Prop :=
  (rm.cells = mc ∧ rm.slots = ms ∧ rm.frames + 1 ≤ R.frames ∧ 8 + (maxL + 11) + rm.locals ≤ R.locals ∧ (∀ w ∈ ws, ∀ (a' : Array Value) (U : State), s.WarmedH U.vm → w.before a' U = true) ∧ Cond.codeWith y bytes maxL ret hh ∈ ws) ∧
  (Cond.codeWith y bytes maxL ret hh).before args s = true ∧ (Cond.initialized y.cls).before args s = true ∧ (y.cls ≠ "java/lang/invoke/MethodHandle" ∧ y.cls ≠ "java/lang/invoke/VarHandle") ∧
  (∀ sig, parseMethodDescriptor y.desc = some sig → n = sig.parameters.length) ∧ (Cond.methodLink own index y).before args s = true ∧ (Cond.static y).before args s = true
theorem vx_cwSW {own : String} {index maxL mc ms : Nat} {y : MethodName} {bytes : ByteArray} {ret : Option FieldType} {hh : List (Nat × Nat × Nat × Nat)} {Ts ws ws' : List Cond} {rm : Room} (n : Nat) (ht : ∀ w ∈ Ts, w.before args s = true) (hT : GoodIn Ts (va_wsS own index y ws)) (hw : ws = Cond.codeWith y bytes maxL ret hh :: ws') (hrc : rm.cells = mc) (hrs : rm.slots = ms)
    (hd : y.cls ≠ "java/lang/invoke/MethodHandle" ∧ y.cls ≠ "java/lang/invoke/VarHandle" ∧ (parseMethodDescriptor y.desc).map (fun d => d.parameters.length) = some n) (hR : rm.frames + 1 ≤ R.frames ∧ 8 + (maxL + 11) + rm.locals ≤ R.locals) :
    vx_CSW R s args own index y bytes maxL ret hh ws rm mc ms n := by
  have ok : ∀ w ∈ va_wsS own index y ws, w.before args s = true := fun w h => ht w (hT w h).1
  have hG : GoodIn Ts ws := fun w h => hT w (by unfold va_wsS; exact List.mem_append_right _ h)
  have hc : Cond.codeWith y bytes maxL ret hh ∈ ws := by rw [hw]; exact List.mem_cons_self
  refine ⟨⟨hrc, hrs, hR.1, hR.2, pay_in ht hG, hc⟩, ht _ (hG _ hc).1, ok _ (by simp [va_wsS]), ⟨hd.1, hd.2.1⟩, fun sig h => ?_, ok _ (by simp [va_wsS]), ok _ (by simp [va_wsS])⟩
  have h2 := hd.2.2
  rw [h] at h2
  exact (Option.some.inj h2).symm
theorem vx_callSW (X : Stand p l e R s m args below meth c T locs cells slots) (hexec : p.tables.exec = Jvm.exec) {own : String} {index : Nat} {y : MethodName} {bytes : ByteArray} {maxL : Nat} {ret : Option FieldType} {hh : List (Nat × Nat × Nat × Nat)}
    (hown : s.vm.findClass own = some m.cls) (hlink : (Cond.methodLink own index y).before args s = true) (hstat : (Cond.static y).before args s = true) (hinit : (Cond.initialized y.cls).before args s = true)
    (hcode : (Cond.codeWith y bytes maxL ret hh).before args s = true) (hy : y.cls ≠ "java/lang/invoke/MethodHandle" ∧ y.cls ≠ "java/lang/invoke/VarHandle")
    {W9 : Nat} {Pre : Pt → Array Value → Prop} {Post : Pt → Array Value → Option Value → Pt → Prop} (hK : Back l R p e below s args y 3 W9 Pre Post)
    {g : JFrame} (hg : g.method = m) (hsize : g.locals.size = c.maxLocals) {argsL rest : List Value} (hlen : ∀ sig, parseMethodDescriptor y.desc = some sig → argsL.length = sig.parameters.length)
    (hstack : g.stack = argsL.reverse ++ rest) (hW : 2 * g.monitorRoom + (rest.map fun v => v.category).sum ≤ W9) (hdg : decode c.code g.pc = .ok (.invokestatic index, 3))
    (hpre : ∀ vm₁, s.WarmedH vm₁ → Pre ⟨T.setVm vm₁, locs, cells, slots⟩ argsL.toArray) :
    ∃ (v : Option Value) (vm₁ : Vm) (B : Pt), s.WarmedH vm₁ ∧ Stand p l e R s m args below meth c B.U B.locs B.cells B.slots ∧ Post ⟨T.setVm vm₁, locs, cells, slots⟩ argsL.toArray v B ∧
      ∀ target, Steps p.tables e below (B.U.setTop { g with pc := g.pc + 3, stack := v.toList ++ rest }) target → Steps p.tables e below (T.setTop g) target := by
  obtain ⟨mk, methM, cM, hnamed, hmethM, -, -, -, -, -, -, hsigM⟩ := Cond.codeWith_spec hcode
  have hstatic : methM.isStatic = true := Cond.static_spec hnamed hmethM hstat
  obtain ⟨kP, hkP, -⟩ := className_of_methodNamed hnamed
  have hinitP : kP.init = .initialized := Cond.initialized_spec (findClass_of_methodNamed hnamed) hkP hinit
  obtain ⟨vm₁, X₁, hstep₁⟩ := X.invokestatic hexec hown hlink hnamed hmethM hstatic hkP hinitP hy (g := g) hg (argsL := argsL) (rest := rest) (hlen _ hsigM) hstack hdg
  obtain ⟨v, B, X', hpost, hsteps⟩ := hK m meth c ⟨T.setVm vm₁, locs, cells, slots⟩ { g with stack := rest } (.invokestatic index) mk argsL.toArray X₁ hg hsize hdg hW (X₁.named hnamed) (hpre vm₁ X₁.warmed)
  exact ⟨v, vm₁, B, X₁.warmed, X', hpost, fun target h => hstep₁ _ fun acts => by rw [doInvoke_state]; exact hsteps.trans h⟩
theorem vx_runSW {y : MethodName} {bytes cc : ByteArray} {maxL nL mc ms n index : Nat} {ret : Option FieldType} {hh : List (Nat × Nat × Nat × Nat)} {ws : List Cond} {rm : Room} {Pc : Array Value → State → Prop} {Qc : Array Value → State → Outcome → State → Prop} {free : Addr → Prop} {Ts : List Cond} {own : String} {As rest : List Value} {g : JFrame}
    (S : CallFix p m c cc nL s args Ts own) (hM : Met l y ws rm Pc Qc mc ms free) (cw : vx_CSW R s args own index y bytes maxL ret hh ws rm mc ms n) (hp : PreS s H Pc As)
    (hg : g.method = m) (hn : As.length = n) (hsize : g.locals.size = nL) (hstack : g.stack = As.reverse ++ rest) (hW : 2 * g.monitorRoom + (rest.map fun v => v.category).sum ≤ 8) (hdg : decode cc g.pc = .ok (.invokestatic index, 3)) (hf : cells + mc ≤ R.cells ∧ slots + ms ≤ R.slots) :
    va_Run p l e R s m args below meth c H locs cells slots mc ms g rest (Qc As.toArray) (free) := by
  obtain ⟨⟨hrc, hrs, hfr, hlo, hws, hcw⟩, hcode, hini, hy, hlen, hl, hstt⟩ := cw
  have hK : Back l R p e below s args y 3 8 (PreOf R mc ms Pc) (PostOf Qc mc ms free) := va_backW (hh := hh) (bytes := bytes) (maxL := maxL) (ret := ret) hM hp.1 hrc hrs hfr hlo hws hcw (fun a' U hW => word_at hW (Or.inl (by first | rfl | simp [Cond.onTables, Cond.keeps, Cond.steady])) hini)
  obtain ⟨hx, hb, hml, ho, -⟩ := S
  intro T hT X
  obtain ⟨v, vm₁, ⟨U', l2, c2, s2⟩, hW₁, X', ⟨g', mk, t, L, e1, e2, hq, h1, hL, h2, h3⟩, st⟩ := vx_callSW X hx (hh := hh) (bytes := bytes) (maxL := maxL) (ret := ret) ho hl hstt hini hcode hy hK hg (hsize.trans hml.symm) (argsL := As) (rest := rest) (fun sig h => hn.trans (hlen sig h)) hstack hW (by rw [hb]; exact hdg)
    (fun vm₁ hW₁ => ⟨hf.1, hf.2, hp.2 (T.setVm vm₁) hT hW₁⟩)
  dsimp only [Pt.U, Pt.locs, Pt.cells, Pt.slots] at X' e1 e2 h1 h2 h3 st
  subst h1; subst h2; subst h3
  exact ⟨v, (T.setVm vm₁).calling g' mk As.toArray, t, U', L, hT, X', hL, e1, e2, hq, st⟩
/-- not caught here, past rows that name other classes: it goes on to the caller -/
theorem vx_outP {p : Program} {l : Launch} {e : Env} {R : Room} {s : State} {m : MethodId} {args : Array Value} {below : List Frame} {meth : Method} {c : Code} {H : Heap} {locs : List Loc} {cells slots : Nat} {free : Addr → Prop} {ls : Array Slot} {rest : List Value} {Qc : Array Value → State → Outcome → State → Prop} {XC : String → State → State → Prop}
    {pc : Nat} {own E : String} {ce : Cell} {q : Addr} {mc ms : Nat} (hown : s.vm.findClass own = some m.cls) (hlocks : meth.locks = false)
    (hpass : ∀ z ∈ c.exceptionTable.toList, covers z pc = false ∨ (z.catchType ≠ 0 ∧ ∃ nm : String, (Cond.classLink own z.catchType nm).before args s = true ∧ va_Nc E nm s)) (hcell : H[q]? = some ce) (hv : ce.vm = .none) (hcl : s.vm.findClass E = some ce.cls)
    (hx : ∀ t : State, t.heap = H → s.vm.Alike t.vm → XC E s t) (hf : ∀ z ∈ locs, free z.base) (hc : cells ≤ mc) (hs : slots ≤ ms) :
    vx_W p l e R s m args below meth c H locs cells slots (vx_MQ below Qc XC args s mc ms free) (F0 m pc ls rest) q := by
  intro T hT X
  have hpl : e.platform.magicAccessors = ({} : Platform).magicAccessors := by rw [X.admits.platform]
  obtain ⟨vm', hW', X', st⟩ := X.outThrough hlocks q (g := F0 m pc ls rest) rfl rfl rfl (cell := ce) (by rw [hT]; exact hcell) (by rw [hv]; rfl)
    (by obtain ⟨k9, h9, -⟩ := Vm.findClass_spec hcl; exact ⟨k9, h9⟩) (fun z hz => by
      rcases hpass z hz with h | ⟨hz0, nm, hl1, hn1⟩
      · exact Or.inl h
      · obtain ⟨c6, hc6, hcl6⟩ := Cond.classLink_spec hown hl1 e.platform hpl
        obtain ⟨a8, b8, h1, h2, h3⟩ := hn1
        cases Option.some.inj (h1.symm.trans hcl)
        cases Option.some.inj (h2.symm.trans hc6)
        exact Or.inr ⟨hz0, _, hcl6, h3⟩)
  obtain ⟨g₀, hfr⟩ := X'.frames_eq
  have hcell9 : ((T.setVm vm').setFrames (.throwing q :: below)).heap[q]? = some ce := by
    show T.heap[q]? = some ce
    rw [hT]; exact hcell
  have hend : Ended ((T.setVm vm').setFrames (.throwing q :: below)) below (.threw q) := State.frames_setFrames _ (State.cur_lt_of_frames hfr)
  refine ⟨(T.setVm vm').setFrames (.throwing q :: below), ?_, .threw q, X'.here.running, hend, Or.inr ⟨q, rfl, E, ce, locs, hx _ hT (X'.ends _).1.alike, hcell9, hv, hcl, (X'.ends _).1, (X'.ends _).2.mono hc hs, hf⟩⟩
  rw [X.pushThrowing_eq]
  exact st
/-- a thing of a world lies in the heap -/
theorem vx_lt {D : va_G} {cl : List vw_C} {ws : va_W} {H1 : Heap} (h : va_P D cl ws H1) {k : Nat} {q : Nat × va_E} (hk : ws[k]? = some q) : q.1 < H1.size := (h k q hk).lt
end VXS
/-! ===== END ===== -/
/-! ===== BEGIN methods with a table of their own: called by a name, returning or throwing ===== -/
section VXH
/-! vx_backW, vx_callVX, vx_callSX, vx_callVW, vx_runVW, vx_runVX, vx_runSX, vx_ofWH follow the same proofs as their sisters above (Free/Laws.lean, Shelf42/LK1.lean); vx_outP calls Shelf42/NT130.lean (outThrough). -/
section
variable {l : Launch} {R : Room} {p : Program} {e : Env} {below : List Frame} {s : State} {sargs : Array Value} {y : MethodName} {len W9 : Nat}
theorem vx_backW {ws : List Cond} {rm : Room} {Pc : Array Value → State → Prop} {Qc : Array Value → State → Outcome → State → Prop} {XC : String → State → State → Prop} {mc ms : Nat} {free : Addr → Prop} {bytes : ByteArray} {maxL : Nat} {ret : Option FieldType} {hh : List (Nat × Nat × Nat × Nat)}
    (hM : vx_Met l y ws rm Pc Qc XC mc ms free) (hblind : FrameBlind Pc) (hrc : rm.cells = mc) (hrs : rm.slots = ms)
    (hframes : rm.frames + 1 ≤ R.frames) (hlocals : W9 + (maxL + 11) + rm.locals ≤ R.locals)
    (hws : ∀ w ∈ ws, ∀ a' U, s.WarmedH U.vm → w.before a' U = true) (hcode : Cond.codeWith y bytes maxL ret hh ∈ ws) (hinit : ∀ a' U, s.WarmedH U.vm → (Cond.initialized y.cls).before a' U = true) :
    vx_Back l R p e below s sargs y len W9 (PreOf R mc ms Pc) (PostOf Qc mc ms free) (vx_Post XC mc ms free) := by
  intro m meth c A g ig mk a X hg hsize hdg hW hn hp
  have h1 : (headSpec ws rm).pre.before a A.U = true := atoms_intro fun w hw => hws w hw _ _ X.warmed
  have h2 : (Cond.codeWith y bytes maxL ret hh).before a A.U = true := hws _ hcode _ _ X.warmed
  have h3 : (Cond.initialized y.cls).before a A.U = true := hinit _ _ X.warmed
  have h4 : A.cells + (headSpec ws rm).room.cells ≤ R.cells := by rw [show (headSpec ws rm).room.cells = mc from hrc]; exact hp.1
  have h5 : A.slots + (headSpec ws rm).room.slots ≤ R.slots := by rw [show (headSpec ws rm).room.slots = ms from hrs]; exact hp.2.1
  have hPc : Pc a (A.U.calling g mk a) := hblind _ _ _ _ hp.2.2
  obtain ⟨U, Ls, c0, s0⟩ := A
  dsimp only [Pt.U, Pt.locs, Pt.cells, Pt.slots] at h1 h2 h3 h4 h5 X hn hPc ⊢
  obtain ⟨m9, methY, cY, hn9, hmY, hcY, -, hlY, -⟩ := Cond.codeWith_spec h2
  cases Option.some.inj (hn9.symm.trans hn)
  obtain ⟨kY, hkY, -⟩ := className_of_methodNamed hn
  have hinitY : kY.init = .initialized := Cond.initialized_spec (findClass_of_methodNamed hn) hkY h3
  have h : At U g.method c below := by rw [hg]; exact X.here
  have hlocals9 : W9 + (maxL + 11) + (headSpec ws rm).room.locals ≤ R.locals := hlocals
  have happ : (headSpec ws rm).appliesLoose y e.platform (U.calling g mk a) = true :=
    Spec.appliesLoose_calling (g := g) h hdg hn hkY hinitY
      (X.room_calling (g := g) (R' := (headSpec ws rm).room) hsize hmY hcY hframes (by rw [hlY]; omega) h4 h5) h1
  obtain ⟨mid, hmid⟩ := h.above
  have hfr : (U.setTop g).frames = (.java g :: mid) ++ below := by rw [State.frames_setTop' g h.top, hmid]; rfl
  obtain ⟨o, s₂, hsteps, -, hend, hq⟩ := Steps.callFree hM p X.admits X.cas X.clock (acts := []) hfr happ hPc trivial
  have hq' : vx_Q Qc XC mc ms free a (U.calling g mk a) o s₂ := hq
  rw [State.frames_setTop' g h.top] at hend
  obtain ⟨g₀, hg0⟩ := Option.isSome_iff_exists.mp h.top
  obtain ⟨r, hr⟩ := State.topJava?_eq_some.mp hg0
  have hr' : (({ U with heap := s₂.heap, slotsUsed := s₂.slotsUsed } : State).setVm s₂.vm).frames = .java g₀ :: r := hr
  rcases hq' with ⟨hqc, L, hfe, hL⟩ | ⟨q, rfl, E, ce, L, hx, hce, hcv, hcl, hW₂, hsm, hL⟩
  · obtain ⟨⟨v, rfl⟩, hW₂, e2, q2, q3, q4, q5, q6⟩ := id hfe
    have e3 : s₂ = ({ (U.calling g mk a).setFrames s₂.frames with heap := s₂.heap, slotsUsed := s₂.slotsUsed } : State).setVm s₂.vm := by
      have : s₂ = ({ s₂ with vm := (U.calling g mk a).vm } : State).setVm s₂.vm := rfl
      rw [e2] at this
      exact this
    obtain ⟨c₂, i₂, len₂, hc₂, hd₂, hf₂⟩ := hend
    have hW' : U.WarmedH s₂.vm := hW₂
    have hcc : c₂ = c := by
      have h1 : s₂.code? g.method = U.code? g.method := by
        rw [State.code?_eq, State.code?_eq, hW'.alike.method?]
      exact Option.some.inj (hc₂.symm.trans (h1.trans h.code))
    subst hcc
    have hlen : len₂ = len := by rw [hdg] at hd₂; cases hd₂; rfl
    subst hlen
    have hs₂ : s₂ = (({ U with heap := s₂.heap, slotsUsed := s₂.slotsUsed } : State).setVm s₂.vm).setTop { g with pc := g.pc + len₂, stack := v.toList ++ g.stack } := by
      refine e3.trans ?_
      rw [hf₂, State.calling_eq h.top, State.setFrames_setFrames, State.setTop_of_frames _ hr', hr]
      rfl
    have hsame : U.sameButNew ({ U with heap := s₂.heap, slotsUsed := s₂.slotsUsed } : State) L mc ms := by
      refine ⟨?_, q2, q3, q4, q5, q6⟩
      obtain ⟨t, ht, -⟩ := State.frames_cons hr
      show ({ U with heap := s₂.heap, slotsUsed := s₂.slotsUsed } : State) = { U.setFrames U.frames with heap := s₂.heap, slotsUsed := s₂.slotsUsed }
      rw [State.setFrames_self ht]
    subst hg
    refine Or.inl ⟨v, ⟨(({ U with heap := s₂.heap, slotsUsed := s₂.slotsUsed } : State).setVm s₂.vm), Ls ++ L, c0 + mc, s0 + ms⟩,
      ⟨X.admits, X.cas, X.clock, X.frames, X.room, X.hears, X.method, X.code, (X.here.setHeapUsed s₂.heap s₂.slotsUsed).setVm hW'.alike, X.tail, State.WarmedH.trans X.warmed hW', X.limits, X.bytes, X.same.trans (hsame.setVm s.vm)⟩,
      ⟨g, mk, s₂, L, rfl, rfl, hqc, rfl, hL, rfl, rfl⟩, ?_⟩
    show Steps p.tables e below _ ((({ U with heap := s₂.heap, slotsUsed := s₂.slotsUsed } : State).setVm s₂.vm).setTop { g with pc := g.pc + len₂, stack := v.toList ++ g.stack })
    rw [← hs₂]
    exact hsteps
  · obtain ⟨e2, q2, q3, q4, q5, q6⟩ := id hsm
    have e3 : s₂ = ({ (U.calling g mk a).setFrames s₂.frames with heap := s₂.heap, slotsUsed := s₂.slotsUsed } : State).setVm s₂.vm := by
      have : s₂ = ({ s₂ with vm := (U.calling g mk a).vm } : State).setVm s₂.vm := rfl
      rw [e2] at this
      exact this
    have hf₂ : s₂.frames = .throwing q :: .java g :: U.frames.tail := hend
    have hW' : U.WarmedH s₂.vm := hW₂
    have hs₂ : s₂ = ((({ U with heap := s₂.heap, slotsUsed := s₂.slotsUsed } : State).setVm s₂.vm).setTop g).pushFrame (.throwing q) := by
      refine e3.trans ?_
      rw [hf₂, State.calling_eq h.top, State.setFrames_setFrames, State.pushFrame, State.frames_setTop _ hr', State.setTop_of_frames _ hr', State.setFrames_setFrames, hr]
      rfl
    have hsame : U.sameButNew ({ U with heap := s₂.heap, slotsUsed := s₂.slotsUsed } : State) L mc ms := by
      refine ⟨?_, q2, q3, q4, q5, q6⟩
      obtain ⟨t, ht, -⟩ := State.frames_cons hr
      show ({ U with heap := s₂.heap, slotsUsed := s₂.slotsUsed } : State) = { U.setFrames U.frames with heap := s₂.heap, slotsUsed := s₂.slotsUsed }
      rw [State.setFrames_self ht]
    subst hg
    refine Or.inr ⟨q, ⟨(({ U with heap := s₂.heap, slotsUsed := s₂.slotsUsed } : State).setVm s₂.vm), Ls ++ L, c0 + mc, s0 + ms⟩,
      ⟨X.admits, X.cas, X.clock, X.frames, X.room, X.hears, X.method, X.code, (X.here.setHeapUsed s₂.heap s₂.slotsUsed).setVm hW'.alike, X.tail, State.WarmedH.trans X.warmed hW', X.limits, X.bytes, X.same.trans (hsame.setVm s.vm)⟩,
      ⟨g, mk, s₂, L, E, ce, rfl, rfl, hx, hce, hcv, hcl, rfl, hL, rfl, rfl⟩, ?_⟩
    show Steps p.tables e below _ (((({ U with heap := s₂.heap, slotsUsed := s₂.slotsUsed } : State).setVm s₂.vm).setTop g).pushFrame (.throwing q))
    rw [← hs₂]
    exact hsteps
end
variable {p : Program} {l : Launch} {e : Env} {R : Room} {s : State} {m : MethodId} {args : Array Value} {below : List Frame} {meth : Method} {c : Code} {T : State} {H : Heap} {locs : List Loc} {cells slots : Nat}
theorem vx_callVX (X : Stand p l e R s m args below meth c T locs cells slots) (hexec : p.tables.exec = Jvm.exec) {own C : String} {index : Nat} {y : MethodName} {bytes : ByteArray} {maxL : Nat} {ret : Option FieldType} {hh : List (Nat × Nat × Nat × Nat)}
    (hown : s.vm.findClass own = some m.cls) (hlink : (Cond.methodLink own index y).before args s = true) (hinst : (Cond.instanceMethod y).before args s = true) (hsel : (Cond.selects C y y).before args s = true)
    (hcode : (Cond.codeWith y bytes maxL ret hh).before args s = true) (hy : y.cls ≠ "java/lang/invoke/MethodHandle" ∧ y.cls ≠ "java/lang/invoke/VarHandle")
    {W9 : Nat} {Pre : Pt → Array Value → Prop} {Post : Pt → Array Value → Option Value → Pt → Prop} {PostX : Pt → Array Value → Addr → Pt → Prop} (hK : vx_Back l R p e below s args y 3 W9 Pre Post PostX)
    {b : Addr} {cellB : Cell} (hcell : T.heap[b]? = some cellB) (hobj : cellB.vm.isStatics = false) (hcls : s.vm.findClass C = some cellB.cls)
    {g : JFrame} (hg : g.method = m) (hsize : g.locals.size = c.maxLocals) {argsL rest : List Value} (hlen : ∀ sig, parseMethodDescriptor y.desc = some sig → argsL.length = sig.parameters.length)
    (hstack : g.stack = argsL.reverse ++ .ref b :: rest) (hW : 2 * g.monitorRoom + (rest.map fun v => v.category).sum ≤ W9) (hdg : decode c.code g.pc = .ok (.invokevirtual index, 3))
    (hpre : ∀ vm₁, s.WarmedH vm₁ → Pre ⟨T.setVm vm₁, locs, cells, slots⟩ (Value.ref b :: argsL).toArray) :
    (∃ (v : Option Value) (vm₁ : Vm) (B : Pt), s.WarmedH vm₁ ∧ Stand p l e R s m args below meth c B.U B.locs B.cells B.slots ∧ Post ⟨T.setVm vm₁, locs, cells, slots⟩ (Value.ref b :: argsL).toArray v B ∧
      ∀ target, Steps p.tables e below (B.U.setTop { g with pc := g.pc + 3, stack := v.toList ++ rest }) target → Steps p.tables e below (T.setTop g) target) ∨
    (∃ (q : Addr) (vm₁ : Vm) (B : Pt), s.WarmedH vm₁ ∧ Stand p l e R s m args below meth c B.U B.locs B.cells B.slots ∧ PostX ⟨T.setVm vm₁, locs, cells, slots⟩ (Value.ref b :: argsL).toArray q B ∧
      Steps p.tables e below (T.setTop g) ((B.U.setTop { g with stack := rest }).pushFrame (.throwing q))) := by
  obtain ⟨mk, methM, hnamed, hmethM, hstM, habM⟩ := Cond.instanceMethod_spec hinst
  obtain ⟨m8, methM', cM, hn8, hmethM', -, -, -, -, -, -, hsigM⟩ := Cond.codeWith_spec hcode
  cases Option.some.inj (hn8.symm.trans hnamed)
  cases hmethM.symm.trans hmethM'
  obtain ⟨c2, r2, m2, q1, q2, q3, q4, kP, hkP, hkPi⟩ := Cond.selects_spec hsel
  cases hcls.symm.trans q1
  cases (State.methodFound?_of_named hnamed hy).symm.trans q2
  cases hnamed.symm.trans q3
  have hselP : selectMethod e.platform s.vm cellB.cls mk = .method mk := by rw [Launch.admits_selectMethod X.admits]; exact q4
  obtain ⟨vm₁, X₁, hstep₁⟩ := X.invokevirtual hexec hown hlink hnamed hmethM hstM hkP hkPi hy (a := b) (cell := cellB) hcell
    (fun z h => by rw [h] at hobj; cases hobj) hselP hmethM habM hkP hkPi (g := g) hg (argsL := argsL) (rest := rest) (hlen _ hsigM) hstack hdg
  rcases hK m meth c ⟨T.setVm vm₁, locs, cells, slots⟩ { g with stack := rest } (.invokevirtual index) mk (Value.ref b :: argsL).toArray X₁ hg hsize hdg hW (X₁.named hnamed) (hpre vm₁ X₁.warmed) with ⟨v, B, X', hpost, hsteps⟩ | ⟨q, B, X', hpost, hsteps⟩
  · exact Or.inl ⟨v, vm₁, B, X₁.warmed, X', hpost, fun target h => hstep₁ _ fun acts => by rw [doInvoke_state]; exact hsteps.trans h⟩
  · exact Or.inr ⟨q, vm₁, B, X₁.warmed, X', hpost, hstep₁ _ fun acts => by rw [doInvoke_state]; exact hsteps⟩
theorem vx_callSX (X : Stand p l e R s m args below meth c T locs cells slots) (hexec : p.tables.exec = Jvm.exec) {own : String} {index : Nat} {y : MethodName} {bytes : ByteArray} {maxL : Nat} {ret : Option FieldType} {hh : List (Nat × Nat × Nat × Nat)}
    (hown : s.vm.findClass own = some m.cls) (hlink : (Cond.methodLink own index y).before args s = true) (hstat : (Cond.static y).before args s = true) (hinit : (Cond.initialized y.cls).before args s = true)
    (hcode : (Cond.codeWith y bytes maxL ret hh).before args s = true) (hy : y.cls ≠ "java/lang/invoke/MethodHandle" ∧ y.cls ≠ "java/lang/invoke/VarHandle")
    {W9 : Nat} {Pre : Pt → Array Value → Prop} {Post : Pt → Array Value → Option Value → Pt → Prop} {PostX : Pt → Array Value → Addr → Pt → Prop} (hK : vx_Back l R p e below s args y 3 W9 Pre Post PostX)
    {g : JFrame} (hg : g.method = m) (hsize : g.locals.size = c.maxLocals) {argsL rest : List Value} (hlen : ∀ sig, parseMethodDescriptor y.desc = some sig → argsL.length = sig.parameters.length)
    (hstack : g.stack = argsL.reverse ++ rest) (hW : 2 * g.monitorRoom + (rest.map fun v => v.category).sum ≤ W9) (hdg : decode c.code g.pc = .ok (.invokestatic index, 3))
    (hpre : ∀ vm₁, s.WarmedH vm₁ → Pre ⟨T.setVm vm₁, locs, cells, slots⟩ argsL.toArray) :
    (∃ (v : Option Value) (vm₁ : Vm) (B : Pt), s.WarmedH vm₁ ∧ Stand p l e R s m args below meth c B.U B.locs B.cells B.slots ∧ Post ⟨T.setVm vm₁, locs, cells, slots⟩ argsL.toArray v B ∧
      ∀ target, Steps p.tables e below (B.U.setTop { g with pc := g.pc + 3, stack := v.toList ++ rest }) target → Steps p.tables e below (T.setTop g) target) ∨
    (∃ (q : Addr) (vm₁ : Vm) (B : Pt), s.WarmedH vm₁ ∧ Stand p l e R s m args below meth c B.U B.locs B.cells B.slots ∧ PostX ⟨T.setVm vm₁, locs, cells, slots⟩ argsL.toArray q B ∧
      Steps p.tables e below (T.setTop g) ((B.U.setTop { g with stack := rest }).pushFrame (.throwing q))) := by
  obtain ⟨mk, methM, cM, hnamed, hmethM, -, -, -, -, -, -, hsigM⟩ := Cond.codeWith_spec hcode
  have hstatic : methM.isStatic = true := Cond.static_spec hnamed hmethM hstat
  obtain ⟨kP, hkP, -⟩ := className_of_methodNamed hnamed
  have hinitP : kP.init = .initialized := Cond.initialized_spec (findClass_of_methodNamed hnamed) hkP hinit
  obtain ⟨vm₁, X₁, hstep₁⟩ := X.invokestatic hexec hown hlink hnamed hmethM hstatic hkP hinitP hy (g := g) hg (argsL := argsL) (rest := rest) (hlen _ hsigM) hstack hdg
  rcases hK m meth c ⟨T.setVm vm₁, locs, cells, slots⟩ { g with stack := rest } (.invokestatic index) mk argsL.toArray X₁ hg hsize hdg hW (X₁.named hnamed) (hpre vm₁ X₁.warmed) with ⟨v, B, X', hpost, hsteps⟩ | ⟨q, B, X', hpost, hsteps⟩
  · exact Or.inl ⟨v, vm₁, B, X₁.warmed, X', hpost, fun target h => hstep₁ _ fun acts => by rw [doInvoke_state]; exact hsteps.trans h⟩
  · exact Or.inr ⟨q, vm₁, B, X₁.warmed, X', hpost, hstep₁ _ fun acts => by rw [doInvoke_state]; exact hsteps⟩
theorem vx_callVW (X : Stand p l e R s m args below meth c T locs cells slots) (hexec : p.tables.exec = Jvm.exec) {own C : String} {index : Nat} {y : MethodName} {bytes : ByteArray} {maxL : Nat} {ret : Option FieldType} {hh : List (Nat × Nat × Nat × Nat)}
    (hown : s.vm.findClass own = some m.cls) (hlink : (Cond.methodLink own index y).before args s = true) (hinst : (Cond.instanceMethod y).before args s = true) (hsel : (Cond.selects C y y).before args s = true)
    (hcode : (Cond.codeWith y bytes maxL ret hh).before args s = true) (hy : y.cls ≠ "java/lang/invoke/MethodHandle" ∧ y.cls ≠ "java/lang/invoke/VarHandle")
    {W9 : Nat} {Pre : Pt → Array Value → Prop} {Post : Pt → Array Value → Option Value → Pt → Prop} (hK : Back l R p e below s args y 3 W9 Pre Post)
    {b : Addr} {cellB : Cell} (hcell : T.heap[b]? = some cellB) (hobj : cellB.vm.isStatics = false) (hcls : s.vm.findClass C = some cellB.cls)
    {g : JFrame} (hg : g.method = m) (hsize : g.locals.size = c.maxLocals) {argsL rest : List Value} (hlen : ∀ sig, parseMethodDescriptor y.desc = some sig → argsL.length = sig.parameters.length)
    (hstack : g.stack = argsL.reverse ++ .ref b :: rest) (hW : 2 * g.monitorRoom + (rest.map fun v => v.category).sum ≤ W9) (hdg : decode c.code g.pc = .ok (.invokevirtual index, 3))
    (hpre : ∀ vm₁, s.WarmedH vm₁ → Pre ⟨T.setVm vm₁, locs, cells, slots⟩ (Value.ref b :: argsL).toArray) :
    ∃ (v : Option Value) (vm₁ : Vm) (B : Pt), s.WarmedH vm₁ ∧ Stand p l e R s m args below meth c B.U B.locs B.cells B.slots ∧ Post ⟨T.setVm vm₁, locs, cells, slots⟩ (Value.ref b :: argsL).toArray v B ∧
      ∀ target, Steps p.tables e below (B.U.setTop { g with pc := g.pc + 3, stack := v.toList ++ rest }) target → Steps p.tables e below (T.setTop g) target := by
  obtain ⟨mk, methM, hnamed, hmethM, hstM, habM⟩ := Cond.instanceMethod_spec hinst
  obtain ⟨m8, methM', cM, hn8, hmethM', -, -, -, -, -, -, hsigM⟩ := Cond.codeWith_spec hcode
  cases Option.some.inj (hn8.symm.trans hnamed)
  cases hmethM.symm.trans hmethM'
  obtain ⟨c2, r2, m2, q1, q2, q3, q4, kP, hkP, hkPi⟩ := Cond.selects_spec hsel
  cases hcls.symm.trans q1
  cases (State.methodFound?_of_named hnamed hy).symm.trans q2
  cases hnamed.symm.trans q3
  have hselP : selectMethod e.platform s.vm cellB.cls mk = .method mk := by rw [Launch.admits_selectMethod X.admits]; exact q4
  obtain ⟨vm₁, X₁, hstep₁⟩ := X.invokevirtual hexec hown hlink hnamed hmethM hstM hkP hkPi hy (a := b) (cell := cellB) hcell
    (fun z h => by rw [h] at hobj; cases hobj) hselP hmethM habM hkP hkPi (g := g) hg (argsL := argsL) (rest := rest) (hlen _ hsigM) hstack hdg
  obtain ⟨v, B, X', hpost, hsteps⟩ := hK m meth c ⟨T.setVm vm₁, locs, cells, slots⟩ { g with stack := rest } (.invokevirtual index) mk (Value.ref b :: argsL).toArray X₁ hg hsize hdg hW (X₁.named hnamed) (hpre vm₁ X₁.warmed)
  exact ⟨v, vm₁, B, X₁.warmed, X', hpost, fun target h => hstep₁ _ fun acts => by rw [doInvoke_state]; exact hsteps.trans h⟩
abbrev vx_CVW (R : Room) (s : State) (args : Array Value) (own C : String) (index : Nat) (y : MethodName) (bytes : ByteArray) (maxL : Nat) (ret : Option FieldType) (hh : List (Nat × Nat × Nat × Nat)) (ws : List Cond) (rm : Room) (mc ms n : Nat) : Prop :=
  (rm.cells = mc ∧ rm.slots = ms ∧ rm.frames + 1 ≤ R.frames ∧ 8 + (maxL + 11) + rm.locals ≤ R.locals ∧ (∀ w ∈ ws, ∀ (a' : Array Value) (U : State), s.WarmedH U.vm → w.before a' U = true) ∧ Cond.codeWith y bytes maxL ret hh ∈ ws) ∧
  (Cond.codeWith y bytes maxL ret hh).before args s = true ∧ (Cond.initialized y.cls).before args s = true ∧ (y.cls ≠ "java/lang/invoke/MethodHandle" ∧ y.cls ≠ "java/lang/invoke/VarHandle") ∧
  (∀ sig, parseMethodDescriptor y.desc = some sig → n = sig.parameters.length) ∧ (Cond.methodLink own index y).before args s = true ∧ (Cond.instanceMethod y).before args s = true ∧ (Cond.selects C y y).before args s = true
theorem vx_cwVW {own C : String} {index maxL mc ms : Nat} {y : MethodName} {bytes : ByteArray} {ret : Option FieldType} {hh : List (Nat × Nat × Nat × Nat)} {Ts ws ws' : List Cond} {rm : Room} (n : Nat) (ht : ∀ w ∈ Ts, w.before args s = true) (hT : GoodIn Ts (wsV own index C y ws)) (hw : ws = Cond.codeWith y bytes maxL ret hh :: ws') (hrc : rm.cells = mc) (hrs : rm.slots = ms)
    (hd : y.cls = C ∧ y.cls ≠ "java/lang/invoke/MethodHandle" ∧ y.cls ≠ "java/lang/invoke/VarHandle" ∧ (parseMethodDescriptor y.desc).map (fun d => d.parameters.length) = some n) (hR : rm.frames + 1 ≤ R.frames ∧ 8 + (maxL + 11) + rm.locals ≤ R.locals) :
    vx_CVW R s args own C index y bytes maxL ret hh ws rm mc ms n := by
  obtain ⟨hC, hd⟩ := hd
  subst hC
  have ok : ∀ w ∈ wsV own index y.cls y ws, w.before args s = true := fun w h => ht w (hT w h).1
  have hG : GoodIn Ts ws := fun w h => hT w (by unfold wsV; exact List.mem_append_right _ h)
  have hc : Cond.codeWith y bytes maxL ret hh ∈ ws := by rw [hw]; exact List.mem_cons_self
  refine ⟨⟨hrc, hrs, hR.1, hR.2, pay_in ht hG, hc⟩, ht _ (hG _ hc).1, ok _ (by simp [wsV]), ⟨hd.1, hd.2.1⟩, fun sig h => ?_, ok _ (by simp [wsV]), ok _ (by simp [wsV]), ok _ (by simp [wsV])⟩
  have h2 := hd.2.2
  rw [h] at h2
  exact (Option.some.inj h2).symm
theorem vx_runVW {y : MethodName} {bytes cc : ByteArray} {maxL nL mc ms n index : Nat} {ret : Option FieldType} {hh : List (Nat × Nat × Nat × Nat)} {ws : List Cond} {rm : Room} {Pc : Array Value → State → Prop} {Qc : Array Value → State → Outcome → State → Prop} {free : Addr → Prop} {Ts : List Cond} {own C : String} {b : Addr} {As rest : List Value} {g : JFrame}
    (S : CallFix p m c cc nL s args Ts own) (hM : Met l y ws rm Pc Qc mc ms free) (cw : vx_CVW R s args own C index y bytes maxL ret hh ws rm mc ms n) (hp : PreV s H C b Pc As)
    (hg : g.method = m) (hn : As.length = n) (hsize : g.locals.size = nL) (hstack : g.stack = As.reverse ++ .ref b :: rest) (hW : 2 * g.monitorRoom + (rest.map fun v => v.category).sum ≤ 8) (hdg : decode cc g.pc = .ok (.invokevirtual index, 3)) (hf : cells + mc ≤ R.cells ∧ slots + ms ≤ R.slots) :
    va_Run p l e R s m args below meth c H locs cells slots mc ms g rest (Qc (Value.ref b :: As).toArray) free := by
  obtain ⟨⟨hrc, hrs, hfr, hlo, hws, hcw⟩, hcode, hini, hy, hlen, hl, hin, hse⟩ := cw
  have hK : Back l R p e below s args y 3 8 (PreOf R mc ms Pc) (PostOf Qc mc ms free) := va_backW (hh := hh) (bytes := bytes) (maxL := maxL) (ret := ret) hM hp.1 hrc hrs hfr hlo hws hcw (fun a' U hW => word_at hW (Or.inl (by first | rfl | simp [Cond.onTables, Cond.keeps, Cond.steady])) hini)
  obtain ⟨hx, hb, hml, ho, -⟩ := S
  obtain ⟨-, ⟨cellB, hcB, hoB, hclB⟩, hPc⟩ := hp
  intro T hT X
  obtain ⟨v, vm₁, ⟨U', l2, c2, s2⟩, hW₁, X', ⟨g', mk, t, L, e1, e2, hq, h1, hL, h2, h3⟩, st⟩ := vx_callVW X hx (C := C) (hh := hh) (bytes := bytes) (maxL := maxL) (ret := ret) ho hl hin hse hcode hy hK (by rw [hT]; exact hcB) hoB hclB hg (hsize.trans hml.symm) (argsL := As) (rest := rest) (fun sig h => hn.trans (hlen sig h)) hstack hW (by rw [hb]; exact hdg)
    (fun vm₁ hW₁ => ⟨hf.1, hf.2, hPc (T.setVm vm₁) hT hW₁⟩)
  dsimp only [Pt.U, Pt.locs, Pt.cells, Pt.slots] at X' e1 e2 h1 h2 h3 st
  subst h1; subst h2; subst h3
  exact ⟨v, (T.setVm vm₁).calling g' mk (Value.ref b :: As).toArray, t, U', L, hT, X', hL, e1, e2, hq, st⟩
section
variable {y : MethodName} {bytes cc : ByteArray} {maxL nL mc ms n index : Nat} {ret : Option FieldType} {ws : List Cond} {rm : Room} {Pc : Array Value → State → Prop} {Qc : Array Value → State → Outcome → State → Prop} {XC : String → State → State → Prop} {free : Addr → Prop} {Ts : List Cond} {own C : String} {b : Addr} {As rest : List Value} {g : JFrame}
theorem vx_runVX {hh : List (Nat × Nat × Nat × Nat)} (S : CallFix p m c cc nL s args Ts own) (hM : vx_Met l y ws rm Pc Qc XC mc ms free) (cw : vx_CVW R s args own C index y bytes maxL ret hh ws rm mc ms n) (hp : PreV s H C b Pc As)
    (hg : g.method = m) (hn : As.length = n) (hsize : g.locals.size = nL) (hstack : g.stack = As.reverse ++ .ref b :: rest) (hW : 2 * g.monitorRoom + (rest.map fun v => v.category).sum ≤ 8) (hdg : decode cc g.pc = .ok (.invokevirtual index, 3)) (hf : cells + mc ≤ R.cells ∧ slots + ms ≤ R.slots) :
    vx_Run p l e R s m args below meth c H locs cells slots mc ms g rest (Qc (Value.ref b :: As).toArray) XC free := by
  obtain ⟨⟨hrc, hrs, hfr, hlo, hws, hcw⟩, hcode, hini, hy, hlen, hl, hin, hse⟩ := cw
  have hK : vx_Back l R p e below s args y 3 8 (PreOf R mc ms Pc) (PostOf Qc mc ms free) (vx_Post XC mc ms free) := vx_backW (hh := hh) (bytes := bytes) (maxL := maxL) (ret := ret) hM hp.1 hrc hrs hfr hlo hws hcw (fun a' U hW => word_at hW (Or.inl (by first | rfl | simp [Cond.onTables, Cond.keeps, Cond.steady])) hini)
  obtain ⟨hx, hb, hml, ho, -⟩ := S
  obtain ⟨-, ⟨cellB, hcB, hoB, hclB⟩, hPc⟩ := hp
  intro T hT X
  rcases vx_callVX X hx (C := C) (hh := hh) (bytes := bytes) (maxL := maxL) (ret := ret) ho hl hin hse hcode hy hK (by rw [hT]; exact hcB) hoB hclB hg (hsize.trans hml.symm) (argsL := As) (rest := rest) (fun sig h => hn.trans (hlen sig h)) hstack hW (by rw [hb]; exact hdg)
    (fun vm₁ hW₁ => ⟨hf.1, hf.2, hPc (T.setVm vm₁) hT hW₁⟩) with ⟨v, vm₁, ⟨U', l2, c2, s2⟩, hW₁, X', ⟨g', mk, t, L, e1, e2, hq, h1, hL, h2, h3⟩, st⟩ | ⟨q, vm₁, ⟨U', l2, c2, s2⟩, hW₁, X', ⟨g', mk, t, L, E, ce, e1, e2, hq, hce, hcv, hcl, h1, hL, h2, h3⟩, st⟩
  · dsimp only [Pt.U, Pt.locs, Pt.cells, Pt.slots] at X' e1 e2 h1 h2 h3 st
    subst h1; subst h2; subst h3
    exact Or.inl ⟨v, (T.setVm vm₁).calling g' mk (Value.ref b :: As).toArray, t, U', L, hT, X', hL, e1, e2, hq, st⟩
  · dsimp only [Pt.U, Pt.locs, Pt.cells, Pt.slots] at X' e1 e2 h1 h2 h3 st hcl
    subst h1; subst h2; subst h3
    exact Or.inr ⟨q, (T.setVm vm₁).calling g' mk (Value.ref b :: As).toArray, t, U', L, E, ce, hT, X', hL, e1, e2, hq, hce, hcv, vx_cls hW₁ hcl, st⟩
theorem vx_runSX {hh : List (Nat × Nat × Nat × Nat)} (S : CallFix p m c cc nL s args Ts own) (hM : vx_Met l y ws rm Pc Qc XC mc ms free) (cw : vx_CSW R s args own index y bytes maxL ret hh ws rm mc ms n) (hp : PreS s H Pc As)
    (hg : g.method = m) (hn : As.length = n) (hsize : g.locals.size = nL) (hstack : g.stack = As.reverse ++ rest) (hW : 2 * g.monitorRoom + (rest.map fun v => v.category).sum ≤ 8) (hdg : decode cc g.pc = .ok (.invokestatic index, 3)) (hf : cells + mc ≤ R.cells ∧ slots + ms ≤ R.slots) :
    vx_Run p l e R s m args below meth c H locs cells slots mc ms g rest (Qc As.toArray) XC free := by
  obtain ⟨⟨hrc, hrs, hfr, hlo, hws, hcw⟩, hcode, hini, hy, hlen, hl, hstt⟩ := cw
  have hK : vx_Back l R p e below s args y 3 8 (PreOf R mc ms Pc) (PostOf Qc mc ms free) (vx_Post XC mc ms free) := vx_backW (hh := hh) (bytes := bytes) (maxL := maxL) (ret := ret) hM hp.1 hrc hrs hfr hlo hws hcw (fun a' U hW => word_at hW (Or.inl (by first | rfl | simp [Cond.onTables, Cond.keeps, Cond.steady])) hini)
  obtain ⟨hx, hb, hml, ho, -⟩ := S
  intro T hT X
  rcases vx_callSX X hx (hh := hh) (bytes := bytes) (maxL := maxL) (ret := ret) ho hl hstt hini hcode hy hK hg (hsize.trans hml.symm) (argsL := As) (rest := rest) (fun sig h => hn.trans (hlen sig h)) hstack hW (by rw [hb]; exact hdg)
    (fun vm₁ hW₁ => ⟨hf.1, hf.2, hp.2 (T.setVm vm₁) hT hW₁⟩) with ⟨v, vm₁, ⟨U', l2, c2, s2⟩, hW₁, X', ⟨g', mk, t, L, e1, e2, hq, h1, hL, h2, h3⟩, st⟩ | ⟨q, vm₁, ⟨U', l2, c2, s2⟩, hW₁, X', ⟨g', mk, t, L, E, ce, e1, e2, hq, hce, hcv, hcl, h1, hL, h2, h3⟩, st⟩
  · dsimp only [Pt.U, Pt.locs, Pt.cells, Pt.slots] at X' e1 e2 h1 h2 h3 st
    subst h1; subst h2; subst h3
    exact Or.inl ⟨v, (T.setVm vm₁).calling g' mk As.toArray, t, U', L, hT, X', hL, e1, e2, hq, st⟩
  · dsimp only [Pt.U, Pt.locs, Pt.cells, Pt.slots] at X' e1 e2 h1 h2 h3 st hcl
    subst h1; subst h2; subst h3
    exact Or.inr ⟨q, (T.setVm vm₁).calling g' mk As.toArray, t, U', L, E, ce, hT, X', hL, e1, e2, hq, hce, hcv, vx_cls hW₁ hcl, st⟩
end
end VXH
theorem vx_ofWH {l : Launch} {y : MethodName} {ws ws' : List Cond} {rm : Room} {Pc : Array Value → State → Prop} {Qc : Array Value → State → Outcome → State → Prop} {XC : String → State → State → Prop} {mc ms : Nat} {free : Addr → Prop} {cc : ByteArray} {maxL : Nat} {ret : Option FieldType} {hh : List (Nat × Nat × Nat × Nat)}
    (hy : plainName y.cls = true) (hw : ws = Cond.codeWith y cc maxL ret hh :: ws')
    (body : ∀ p e s m args below meth c s₁, BodyLoose p l y (headSpec ws rm) cc maxL ret e s m args below meth c s₁ → c.maxLocals = maxL → Pc args s →
      W p l e (headSpec ws rm).room s m args below meth c s.heap [] 0 0 (vx_MQ below Qc XC args s mc ms free) (entryFrame m args maxL)) : vx_Met l y ws rm Pc Qc XC mc ms free := by
  refine MetFree.of_bodyS (code := cc) (maxLocals := maxL) (ret := ret) hy ?_ ?_
  · intro args s m h hn
    obtain ⟨m9, meth, c, hn9, h1, h2, h3, h4, -, h5, h6, -⟩ := Cond.codeWith_spec (atoms_spec (ws := ws) h _ (by rw [hw]; exact List.mem_cons_self))
    cases hn.symm.trans hn9
    exact ⟨meth, c, h1, h2, h3, h4, h5, h6⟩
  · intro p e s m args below meth c s₁ B hml hP _
    have hh0 : s₁.heap = s.heap := by rw [B.state]; rfl
    obtain ⟨t, a1, o, b1, b2, b3⟩ := body p e s m args below meth c s₁ B hml hP s₁ hh0 (Stand.of_body B)
    exact ⟨t, o, a1, b1, b2, b3⟩
/-! ===== END ===== -/

/-! ===== BEGIN what the machine throws by itself, no traces kept ===== -/
section VXM
set_option maxHeartbeats 1000000 in
/-- the machine throws cls with the message text, no traces kept: from its note over the frame g to 'throwing' over the same frame (follows the proofs of Stand.vmThrowsMessage, Shelf/KitTracedVmS.lean, and Stand.throwsMessageColdBareV, StandMessageColdV.lean, without the step out of the frame) -/
theorem vx_vmAt {p : Program} {l : Launch} {e : Env} {R : Room} {s : State} {m₀ : MethodId} {args : Array Value} {below : List Frame} {meth : Method} {c : Code} {W : State} {locs : List Loc} {cells slots : Nat}
    (X : Stand p l e R s m₀ args below meth c W locs cells slots) (hexec : p.tables.exec = Jvm.exec) (htr : e.platform.stackTraces = false) {cls : String} {names : List String} {text : String}
    (hcls : Bundle.fit cls = true) (hnames : ∀ n ∈ names, Bundle.fit n = true) (hsoe : (cls == "java/lang/StackOverflowError") = false) (hoom : (cls == "java/lang/OutOfMemoryError") = false)
    (h : ∀ a ∈ Bundle.messageArmAtoms cls names, a.before args s = true)
    (hlocs : ∀ x ∈ locs, ∀ cell, s.heap[x.base]? = some cell → cell.vm.isStatics = false)
    (htext : (text == notModelled) = false) (hlimit : ¬ (stringBytes (stringToUtf16 text)).size > e.platform.arrayLengthLimit) (hheap : ¬ (stringBytes (stringToUtf16 text)).size * componentBytes .byte > e.platform.maxHeapBytes)
    {g : JFrame} (hg : g.method = m₀) (hsize : g.locals.size = c.maxLocals)
    (hRframes : names.length + 4 < R.frames) (hRlocals : 2 * g.monitorRoom + (g.stack.map fun v => v.category).sum + 10240 ≤ R.locals) (hshort : 13 * names.length + 55 ≤ 10240)
    (hRcells : cells + 3 ≤ R.cells) (hRslots : slots + ((stringBytes (stringToUtf16 text)).size + 4 + 6) ≤ R.slots) (hlocks : meth.locks = false) :
    ∃ (S : State) (q : Addr) (ce : Cell), (∀ target, Steps p.tables e below ((S.setTop g).pushFrame (.throwing q)) target → Steps p.tables e below ((W.setTop g).pushFrame (.throwNew cls (some text) none)) target) ∧
      Stand p l e R s m₀ args below meth c S locs (cells + 3) (slots + ((stringBytes (stringToUtf16 text)).size + 4 + 6)) ∧ S.heap[q]? = some ce ∧ s.vm.findClass cls = some ce.cls ∧ ce.vm = .none := by
  have howns : e.platform.frameOwnsMonitors = true := by rw [X.admits.platform]
  have hfin : e.platform.finalization = false := by rw [X.admits.platform]
  have hpl : e.platform.magicAccessors = ({} : Platform).magicAccessors := by rw [X.admits.platform]
  have a : ∀ x, x ∈ Bundle.messageArmAtoms cls names → x.holds args s none s [] = true := fun x hx => h x hx
  obtain ⟨T, Z0, L, -, Y⟩ := ThrowableC.of_atoms (args := args) howns hfin hpl (fun x hx => h x (by simp [Bundle.messageArmAtoms, hx]))
  obtain ⟨Z, M, LZ, LM, hnZ⟩ := Init0T.ofS_atoms (args := args) hpl L Y (fun x hx => h x (by simp [Bundle.messageArmAtoms, hx]))
  obtain ⟨P1, Ps, hlen, L1, hL, hP1m, hlink1, hlink⟩ := Bundle.chainS (args := args) hpl hnZ names cls hcls hnames (fun x hx => h x (by simp [Bundle.messageArmAtoms, hx]))
  obtain ⟨Zs, LZs, hn4, hfitv, hfitc⟩ := StringT.of_atoms (args := args) (fun x hx => h x (by simp [Bundle.messageArmAtoms, hx]))
  have hfound : s.vm.findClass cls = some P1.m.cls := findClass_of_methodNamed hP1m
  obtain ⟨c1, kX, hc1, hk, hord, -, -, hn6⟩ := Cond.instantiable_spec (a (.instantiable cls 6) (by simp [Bundle.messageArmAtoms]))
  cases Option.some.inj (hc1.symm.trans hfound)
  have hinit := Cond.initialized_spec hfound hk (a (.initialized cls) (by simp [Bundle.messageArmAtoms]))
  have hctor : kX.findMethod "<init>" "(Ljava/lang/String;)V" = some P1.m.idx := findMethod_of_methodNamed hP1m hk
  have hsel0 : selectMethod e.platform s.vm P1.m.cls T.fill0 = .method T.fill0 := by
    obtain ⟨c2, r2, m2, q1, q2, q3, q4, -⟩ := Cond.selects_spec (a (.selects cls Bundle.tFill0 Bundle.tFill0) (by simp [Bundle.messageArmAtoms]))
    cases Option.some.inj (q1.symm.trans hfound)
    cases Option.some.inj (q2.symm.trans (State.methodFound?_of_named Y.fill0 (by decide)))
    cases Option.some.inj (q3.symm.trans Y.fill0)
    rw [Launch.admits_selectMethod X.admits]; exact q4
  have hselF : selectMethod e.platform s.vm P1.m.cls T.fill = .method T.fill := by
    obtain ⟨c2, r2, m2, q1, q2, q3, q4, -⟩ := Cond.selects_spec (a (.selects cls Bundle.tFill Bundle.tFill) (by simp [Bundle.messageArmAtoms]))
    cases Option.some.inj (q1.symm.trans hfound)
    cases Option.some.inj (q2.symm.trans (State.methodFound?_of_named Y.fill (by decide)))
    cases Option.some.inj (q3.symm.trans Y.fill)
    rw [Launch.admits_selectMethod X.admits]; exact q4
  obtain ⟨cellS0, hcS0, hiss⟩ := Y.statics
  obtain ⟨u0, hu0⟩ := Cond.staticRefV Y.unassigned L.unassignedStatic L.statics hcS0 hiss (a (.isRef (.static Bundle.tN "UNASSIGNED_STACK" Bundle.steD)) (by simp [Bundle.messageArmAtoms]))
  obtain ⟨sen, hsen⟩ := Cond.staticRefV Y.sentinel L.sentinelStatic L.statics hcS0 hiss (a (.isRef (.static Bundle.tN "SUPPRESSED_SENTINEL" Bundle.listD)) (by simp [Bundle.messageArmAtoms]))
  obtain ⟨ci198, i198, fB, hk198, hg198, ha198, hsB, -, hnB, htB, hffB⟩ := Cond.ownField (t := .object "java/lang/Object") Y.found L.cls (by decide +kernel) (a (.fieldLink Bundle.tN 198 Bundle.tN "backtrace" "Ljava/lang/Object;") (by simp [Bundle.messageArmAtoms])) (a (.lays Bundle.tN Bundle.tN "backtrace" "Ljava/lang/Object;") (by simp [Bundle.messageArmAtoms])) e.platform hpl
  obtain ⟨cellS, hcS', heS, -, hkeep⟩ := X.same.2.2.2.2.2 T.aS cellS0 hcS0
  have hcellS : W.heap[T.aS]? = some cellS := hcS'
  have hout' : ∀ i, (⟨T.aS, i⟩ : Loc) ∉ locs := fun i hmem => by
    have := hlocs _ hmem cellS0 hcS0
    rw [hiss] at this; cases this
  have hknownS : cellS.vm ≠ .unknown := by
    rw [heS]; intro hu
    rw [show cellS0.vm = .unknown from hu] at hiss
    cases hiss
  have hvU : cellS.slots[T.fUnassigned.slot]? = some u0.v := by rw [hkeep _ (hout' _)]; exact hu0
  have hvSen : cellS.slots[T.fSentinel.slot]? = some sen.v := by rw [hkeep _ (hout' _)]; exact hsen
  obtain ⟨iM, hffM⟩ := Y.msg
  obtain ⟨tyC, dC, hdC, hdnC⟩ := Cond.laysAt hfound hk Y.cause (a (.lays cls Bundle.tN "cause" "Ljava/lang/Throwable;") (by simp [Bundle.messageArmAtoms]))
  obtain ⟨tyS, dS, hdS, hdnS⟩ := Cond.laysAt hfound hk Y.stack (a (.lays cls Bundle.tN "stackTrace" Bundle.steD) (by simp [Bundle.messageArmAtoms]))
  obtain ⟨tyP, dP, hdP, hdnP⟩ := Cond.laysAt hfound hk Y.supp (a (.lays cls Bundle.tN "suppressedExceptions" Bundle.listD) (by simp [Bundle.messageArmAtoms]))
  obtain ⟨tyM, dM, hdM, hdnM⟩ := Cond.laysAt hfound hk hffM (a (.lays cls Bundle.tN "detailMessage" "Ljava/lang/String;") (by simp [Bundle.messageArmAtoms]))
  obtain ⟨tyB, dB, hdB, hdnB⟩ := Cond.laysAt hfound hk hffB (a (.lays cls Bundle.tN "backtrace" "Ljava/lang/Object;") (by simp [Bundle.messageArmAtoms]))
  have bC := Cond.laysApart hdB hdC hdnB hdnC (by rw [hnB, Y.causeName]; decide)
  have bS := Cond.laysApart hdB hdS hdnB hdnS (by rw [hnB, Y.stackName]; decide)
  have bP := Cond.laysApart hdB hdP hdnB hdnP (by rw [hnB, Y.suppName]; decide)
  have hbk : ((preparedCellV T.toThrowableT (freshCell P1.m.cls kX) (W.heap.size + 2) u0 sen).withEntry W.cur).slots[fB.slot]? = some .null := by
    have := fresh_default (c := P1.m.cls) tyB
    rw [htB] at this
    simpa [preparedCellV, Cell.setSlot, Cell.withEntry, Array.getElem?_setIfInBounds, bC, bS, bP, bC.symm, bS.symm, bP.symm, defaultValue] using this
  have tkC := Takes.of_laid (v := .ref (W.heap.size + 2)) hk hord tyC (by rw [Y.causeType]; rfl)
  have tkS := Takes.of_laid (v := u0.v) hk hord tyS (by rw [Y.stackType]; exact fits_refV_array _ u0)
  have tkP := Takes.of_laid (v := sen.v) hk hord tyP (by rw [Y.suppType]; exact fits_refV_object _ sen)
  have tkM := Takes.of_laid (v := .ref (W.heap.size + 1)) hk hord tyM (by rw [Y.msgType]; rfl)
  have hskip : SkipFacts T e.platform s (fun u => u) u0 ((preparedCellV T.toThrowableT (freshCell P1.m.cls kX) (W.heap.size + 2) u0 sen).withEntry W.cur) := ⟨{ ci198 := ci198, i198 := i198, fBack := fB }, ⟨hk198, hg198, ha198, hsB⟩, hbk, fun _ _ => rfl⟩
  have h0 : At W g.method c below := by rw [hg]; exact X.here
  obtain ⟨hbeyond, hfreeW⟩ := X.vmMayThrow hsize (.throwNew cls (some text) none) (fun f hf => by cases hf) rfl hRlocals
  have hfr' : W.frames.length + Ps.length + 4 < (e.platform.stackLimits W.me).1 := by have := X.framesAbove hRframes; omega
  have hwd' : (stackUse (.java g :: W.frames.tail)).2 + 13 * Ps.length + 55 ≤ (e.platform.stackLimits W.me).2 := by have := X.stackAbove hsize (K := 13 * Ps.length + 55) (by omega); omega
  have hslots : W.slotsUsed + (stringBytes (stringToUtf16 text)).size + Zs.kS.instanceTypes.size + kX.instanceTypes.size ≤ e.platform.maxSlots := by
    have := X.slotsAbove hRslots
    rw [hn4, hn6]
    omega
  obtain ⟨vm', hW', st⟩ := Steps.vmThrowsMessageColdByV p (s₀ := s) (S := W) (g := g) h0 hexec T L Z LZ M LM X.warmed (t := W.cur) rfl Zs LZs P1 L1 Ps hL hlink1 hlink hsoe hoom hfound hk hinit hord hctor
    (Launch.admits_hotImplicitExceptions X.admits) hbeyond hfreeW htext hlimit hheap (X.cellsAbove hRcells) hslots (hfitv _) (hfitc _)
    (Nn := fun u => u) heapOnly_id (fun _ _ => rfl) (fun _ => rfl) (fun u x y => setCell_twice _ _ _ _) (fun _ => Nat.le_refl _) (cN := ((preparedCellV T.toThrowableT (freshCell P1.m.cls kX) (W.heap.size + 2) u0 sen).withEntry W.cur))
    hsel0 hcellS hknownS hvU tkS (fun _ hu => hu) (fun _ hu => hu) rfl rfl rfl (by simp [preparedCellV, Cell.setSlot, Cell.withEntry]) hskip (fun _ _ hA hW _ hroom _ hrest => L.nativeOff p htr hA hW hroom hrest) hselF hvSen tkC tkP tkM Y.objLocals rfl hfr' hwd'
  rw [plainBareV_eq T.toThrowableT (W.heap.size + 2) u0 sen (.ref (W.heap.size + 1)) W.cur rfl rfl] at st
  obtain ⟨-, -, w3, w4, -, -, -⟩ := withThrown_facts e.platform W Zs text P1.m.cls kX
  have X3 := ((X.pushed (bytesOf Zs.cB (stringToUtf16 text))).pushed (stringAt Zs.cS Zs.kS Zs.fv Zs.fc (stringToUtf16 text) W.heap.size)).pushed (freshCell P1.m.cls kX)
  rw [← withString_eq] at X3
  have X4 := X3.noted hW'
  have ha : (W.heap.size + 2) < ((withThrown W Zs text P1.m.cls kX).setVm vm').heap.size := by show _ < (withThrown W Zs text P1.m.cls kX).heap.size; rw [w3]; omega
  have hcell : ((withThrown W Zs text P1.m.cls kX).setVm vm').heap[(W.heap.size + 2)]? = some (freshCell P1.m.cls kX) := w4
  have X5 := ((((X4.stored hcell T.fCause.slot (.ref (W.heap.size + 2))).storedAgain ha T.fStack.slot u0.v).storedAgain ha T.fSupp.slot sen.v).storedAgain ha T.fStack.slot u0.v).storedAgain ha T.fMsg.slot (.ref (W.heap.size + 1))
  obtain ⟨g₁, hfrM⟩ := X5.frames_eq
  have hU : ((((withThrown W Zs text P1.m.cls kX).setVm vm').setCell (W.heap.size + 2) (plainBareV T.toThrowableT (freshCell P1.m.cls kX) (W.heap.size + 2) u0 sen (.ref (W.heap.size + 1)))).setTop g).pushFrame (.throwing (W.heap.size + 2)) = (((withThrown W Zs text P1.m.cls kX).setVm vm').setCell (W.heap.size + 2) (plainBareV T.toThrowableT (freshCell P1.m.cls kX) (W.heap.size + 2) u0 sen (.ref (W.heap.size + 1)))).setFrames (.throwing (W.heap.size + 2) :: .java g :: below) := by
    rw [State.pushFrame, State.frames_setTop _ hfrM, State.setTop_of_frames _ hfrM, State.setFrames_setFrames]
  have b1 : (bytesOf Zs.cB (stringToUtf16 text)).slots.size = (stringBytes (stringToUtf16 text)).size := by
    rw [(Cell.writeAll_facts _ _).2.2]; simp [bytes0]
  have b2 : (stringAt Zs.cS Zs.kS Zs.fv Zs.fc (stringToUtf16 text) W.heap.size).slots.size = 4 := by simp [string0, Cell.setSlot, hn4]
  have b3 : (freshCell P1.m.cls kX).slots.size = 6 := by simp [hn6]
  rw [b1, b2, b3] at X5
  have e9 : slots + (stringBytes (stringToUtf16 text)).size + 4 + 6 = slots + ((stringBytes (stringToUtf16 text)).size + 4 + 6) := by omega
  rw [e9] at X5
  simp only [List.append_assoc, List.cons_append, List.nil_append] at X5
  refine ⟨((withThrown W Zs text P1.m.cls kX).setVm vm').setCell (W.heap.size + 2) (plainBareV T.toThrowableT (freshCell P1.m.cls kX) (W.heap.size + 2) u0 sen (.ref (W.heap.size + 1))), W.heap.size + 2, _, fun target ht => st _ (by rw [X.tail, ← hU]; exact ht),
    X5.forget (fun y hy => ?_), heapAt_setCell_self _ ha, hfound, rfl⟩
  simp only [List.mem_cons, List.not_mem_nil, or_false] at hy
  have hge : s.heap.size ≤ W.heap.size := X.same.2.1
  rcases hy with rfl | rfl | rfl | rfl | rfl <;> exact Nat.le_trans hge (Nat.le_add_right _ 2)
set_option maxHeartbeats 1000000 in
/-- the machine throws NullPointerException, no traces kept: from its note over the frame g to 'throwing' over the same frame (follows the proof of Stand.vmThrowsNpe, Shelf42/KT2.lean; throwsNpeColdBareVAt, Shelf42/NT91.lean, called) -/
theorem vx_npeAt {p : Program} {l : Launch} {e : Env} {R : Room} {s : State} {m₀ : MethodId} {args : Array Value} {below : List Frame} {meth : Method} {c : Code} {W : State} {locs : List Loc} {cells slots : Nat}
    (X : Stand p l e R s m₀ args below meth c W locs cells slots) (hexec : p.tables.exec = Jvm.exec) (htr : e.platform.stackTraces = false) {n : Nat}
    (h : ∀ a ∈ Bundle.npeArmAtoms n, a.before args s = true)
    (hlocs : ∀ x ∈ locs, ∀ cell, s.heap[x.base]? = some cell → cell.vm.isStatics = false)
    {g : JFrame} (hg : g.method = m₀) (hsize : g.locals.size = c.maxLocals)
    (hRframes : 7 < R.frames) (hRlocals : 2 * g.monitorRoom + (g.stack.map fun v => v.category).sum + 10240 ≤ R.locals)
    (hRcells : cells + 1 ≤ R.cells) (hRslots : slots + n ≤ R.slots) (hlocks : meth.locks = false) :
    ∃ (S : State) (q : Addr) (ce : Cell), (∀ target, Steps p.tables e below ((S.setTop g).pushFrame (.throwing q)) target → Steps p.tables e below ((W.setTop g).pushFrame (.throwNew "java/lang/NullPointerException" none none)) target) ∧
      Stand p l e R s m₀ args below meth c S locs (cells + 1) (slots + n) ∧ S.heap[q]? = some ce ∧ s.vm.findClass "java/lang/NullPointerException" = some ce.cls ∧ ce.vm = .none := by
  have howns : e.platform.frameOwnsMonitors = true := by rw [X.admits.platform]
  have hfin : e.platform.finalization = false := by rw [X.admits.platform]
  have hpl : e.platform.magicAccessors = ({} : Platform).magicAccessors := by rw [X.admits.platform]
  have hpl2 : e.platform.arrayCloneIsPublic = true := by rw [X.admits.platform]
  have a' : ∀ x, x ∈ Bundle.npeArmAtoms n → x.holds args s none s [] = true := fun x hx => h x hx
  obtain ⟨T, Z, L, LZ, Y⟩ := ThrowableC.of_atoms (args := args) howns hfin hpl (fun x hx => h x (by simp [Bundle.npeArmAtoms, hx]))
  obtain ⟨N, LN, hcN, hnNF, hordN, hffS⟩ := NpeC.of_atoms (args := args) hpl hpl2 L Y (fun x hx => h x (by simp [Bundle.npeArmAtoms, hx]))
  obtain ⟨P1, L1, hP1m, hP1s⟩ := PassC.of_atoms (args := args) (s := s) hpl (X := Bundle.nN) (Y := Bundle.rN) (by decide) (by decide) LibCode.NullPointerException.Init0.at_0 LibCode.NullPointerException.Init0.at_1 LibCode.NullPointerException.Init0.at_4 (fun x hx => h x (by simp [Bundle.npeArmAtoms, hx]))
  obtain ⟨PR, LR, hPRm, hPRs⟩ := PassC.of_atoms (args := args) (s := s) hpl (X := Bundle.rN) (Y := Bundle.eN) (by decide) (by decide) LibCode.RuntimeException.Init0.at_0 LibCode.RuntimeException.Init0.at_1 LibCode.RuntimeException.Init0.at_4 (fun x hx => h x (by simp [Bundle.npeArmAtoms, hx]))
  obtain ⟨PE, LEx, hPEm, hPEs⟩ := PassC.of_atoms (args := args) (s := s) hpl (X := Bundle.eN) (Y := Bundle.tN) (by decide) (by decide) LibCode.Exception.Init0.at_0 LibCode.Exception.Init0.at_1 LibCode.Exception.Init0.at_4 (fun x hx => h x (by simp [Bundle.npeArmAtoms, hx]))
  have hfound : s.vm.findClass Bundle.nN = some P1.m.cls := findClass_of_methodNamed hP1m
  have ecls : N.cN = P1.m.cls := Option.some.inj (hcN.symm.trans hfound)
  have hk : s.vm.classes[P1.m.cls]? = some N.kN := by rw [← ecls]; exact LN.cls
  have hinit := Cond.initialized_spec hfound hk (a' (.initialized Bundle.nN) (by simp [Bundle.npeArmAtoms]))
  have hctor : N.kN.findMethod "<init>" "()V" = some P1.m.idx := findMethod_of_methodNamed hP1m hk
  obtain ⟨c1, k1, hc1, hk1, -, -, -, hn⟩ := Cond.instantiable_spec (a' (.instantiable Bundle.nN n) (by simp [Bundle.npeArmAtoms]))
  cases Option.some.inj (hc1.symm.trans hfound)
  cases Option.some.inj (hk1.symm.trans hk)
  have hfsz : (freshCell P1.m.cls N.kN).slots.size = n := by simp [hn]
  have hlink1 : P1.sup = PR.m := Option.some.inj (hP1s.symm.trans hPRm)
  have hlinkR : PR.sup = PE.m := Option.some.inj (hPRs.symm.trans hPEm)
  have hlinkE : PE.sup = Z.m T.toThrowableT := Option.some.inj (hPEs.symm.trans Y.init0)
  have hLs : ∀ P, P ∈ [PR, PE] → P.Links0 e.platform s := fun P hP => by
    simp only [List.mem_cons, List.not_mem_nil, or_false] at hP
    rcases hP with rfl | rfl
    · exact LR
    · exact LEx
  have hsel0 : selectMethod e.platform s.vm P1.m.cls T.fill0 = .method T.fill0 := by
    obtain ⟨c2, r2, m2, q1, q2, q3, q4, -⟩ := Cond.selects_spec (a' (.selects Bundle.nN Bundle.tFill0 Bundle.tFill0) (by simp [Bundle.npeArmAtoms]))
    cases Option.some.inj (q1.symm.trans hfound)
    cases Option.some.inj (q2.symm.trans (State.methodFound?_of_named Y.fill0 (by decide)))
    cases Option.some.inj (q3.symm.trans Y.fill0)
    rw [Launch.admits_selectMethod X.admits]; exact q4
  have hselF : selectMethod e.platform s.vm P1.m.cls T.fill = .method N.fill := by
    obtain ⟨c2, r2, m2, q1, q2, q3, q4, -⟩ := Cond.selects_spec (a' (.selects Bundle.nN Bundle.tFill Bundle.nFill) (by simp [Bundle.npeArmAtoms]))
    cases Option.some.inj (q1.symm.trans hfound)
    cases Option.some.inj (q2.symm.trans (State.methodFound?_of_named Y.fill (by decide)))
    cases Option.some.inj (q3.symm.trans hnNF)
    rw [Launch.admits_selectMethod X.admits]; exact q4
  obtain ⟨cellS0, hcS0, hiss⟩ := Y.statics
  obtain ⟨u0, hu0⟩ := Cond.staticRefV Y.unassigned L.unassignedStatic L.statics hcS0 hiss (a' (.isRef (.static Bundle.tN "UNASSIGNED_STACK" Bundle.steD)) (by simp [Bundle.npeArmAtoms]))
  obtain ⟨sen, hsen⟩ := Cond.staticRefV Y.sentinel L.sentinelStatic L.statics hcS0 hiss (a' (.isRef (.static Bundle.tN "SUPPRESSED_SENTINEL" Bundle.listD)) (by simp [Bundle.npeArmAtoms]))
  obtain ⟨ci198, i198, fB, hk198, hg198, ha198, hsB, -, hnB, htB, hffB⟩ := Cond.ownField (t := .object "java/lang/Object") Y.found L.cls (by decide +kernel) (a' (.fieldLink Bundle.tN 198 Bundle.tN "backtrace" Bundle.objD) (by simp [Bundle.npeArmAtoms])) (a' (.lays Bundle.tN Bundle.tN "backtrace" Bundle.objD) (by simp [Bundle.npeArmAtoms])) e.platform hpl
  obtain ⟨cellS, hcS', heS, -, hkeep⟩ := X.same.2.2.2.2.2 T.aS cellS0 hcS0
  have hcellS : W.heap[T.aS]? = some cellS := hcS'
  have hout' : ∀ i, (⟨T.aS, i⟩ : Loc) ∉ locs := fun i hmem => by
    have := hlocs _ hmem cellS0 hcS0
    rw [hiss] at this; cases this
  have hknownS : cellS.vm ≠ .unknown := by
    rw [heS]; intro hu
    rw [show cellS0.vm = .unknown from hu] at hiss
    cases hiss
  have hvU : cellS.slots[T.fUnassigned.slot]? = some u0.v := by rw [hkeep _ (hout' _)]; exact hu0
  have hvSen : cellS.slots[T.fSentinel.slot]? = some sen.v := by rw [hkeep _ (hout' _)]; exact hsen
  obtain ⟨tyC, dC, hdC, hdnC⟩ := Cond.laysAt hfound hk Y.cause (a' (.lays Bundle.nN Bundle.tN "cause" "Ljava/lang/Throwable;") (by simp [Bundle.npeArmAtoms]))
  obtain ⟨tyS, dS, hdS, hdnS⟩ := Cond.laysAt hfound hk Y.stack (a' (.lays Bundle.nN Bundle.tN "stackTrace" Bundle.steD) (by simp [Bundle.npeArmAtoms]))
  obtain ⟨tyP, dP, hdP, hdnP⟩ := Cond.laysAt hfound hk Y.supp (a' (.lays Bundle.nN Bundle.tN "suppressedExceptions" Bundle.listD) (by simp [Bundle.npeArmAtoms]))
  obtain ⟨tyX, dX, hdX, hdnX⟩ := Cond.laysAt hfound hk hffS (a' (.lays Bundle.nN Bundle.nN "extendedMessageState" "I") (by simp [Bundle.npeArmAtoms, Bundle.npeAtoms]))
  obtain ⟨hnX, htX⟩ := State.fieldFound?_type hffS (t := .int) (by decide +kernel)
  have xC := Cond.laysApart hdC hdX hdnC hdnX (by rw [hnX, Y.causeName]; decide)
  have xS := Cond.laysApart hdS hdX hdnS hdnX (by rw [hnX, Y.stackName]; decide)
  have xP := Cond.laysApart hdP hdX hdnP hdnX (by rw [hnX, Y.suppName]; decide)
  have hv0 : (freshCell P1.m.cls N.kN).slots[N.fState.slot]? = some (.int 0) := by
    have := fresh_default (c := P1.m.cls) tyX
    rw [htX] at this; exact this
  obtain ⟨tyB, dB, hdB, hdnB⟩ := Cond.laysAt hfound hk hffB (a' (.lays Bundle.nN Bundle.tN "backtrace" Bundle.objD) (by simp [Bundle.npeArmAtoms]))
  have bC := Cond.laysApart hdB hdC hdnB hdnC (by rw [hnB, Y.causeName]; decide)
  have bS := Cond.laysApart hdB hdS hdnB hdnS (by rw [hnB, Y.stackName]; decide)
  have bP := Cond.laysApart hdB hdP hdnB hdnP (by rw [hnB, Y.suppName]; decide)
  have bX := Cond.laysApart hdB hdX hdnB hdnX (by rw [hnB, hnX]; decide)
  have hbk : ((npeCell N.toNpeT (preparedCellV T.toThrowableT (freshCell P1.m.cls N.kN) W.heap.size u0 sen) W.cur).withEntry W.cur).slots[fB.slot]? = some .null := by
    have := fresh_default (c := P1.m.cls) tyB
    rw [htB] at this
    simpa [npeCell, preparedCellV, Cell.setSlot, Cell.withEntry, Array.getElem?_setIfInBounds, bC, bS, bP, bX, bC.symm, bS.symm, bP.symm, bX.symm, defaultValue] using this
  have tkC := Takes.of_laid (v := .ref W.heap.size) hk hordN tyC (by rw [Y.causeType]; rfl)
  have tkS := Takes.of_laid (v := u0.v) hk hordN tyS (by rw [Y.stackType]; exact fits_refV_array _ u0)
  have tkP := Takes.of_laid (v := sen.v) hk hordN tyP (by rw [Y.suppType]; exact fits_refV_object _ sen)
  have tkX := Takes.of_laid (v := .int 1) hk hordN tyX (by rw [htX]; rfl)
  have hskip : SkipFacts T e.platform s (fun u => u) u0 ((npeCell N.toNpeT (preparedCellV T.toThrowableT (freshCell P1.m.cls N.kN) W.heap.size u0 sen) W.cur).withEntry W.cur) := ⟨{ ci198 := ci198, i198 := i198, fBack := fB }, ⟨hk198, hg198, ha198, hsB⟩, hbk, fun _ _ => rfl⟩
  obtain ⟨vm', X3, st, -⟩ := X.throwsNpeColdBareVAt hexec hg hsize T L Z LZ N LN P1 L1 [PR, PE] hLs hlink1 ⟨hlinkR, hlinkE, trivial⟩ hfound hk hinit hordN hctor hsel0 hselF hcellS hknownS hvU hvSen
    hv0 xC xS xP tkC tkS tkP tkX Y.objLocals hskip (fun _ _ hA hW _ hroom _ hrest => L.nativeOff p htr hA hW hroom hrest) (by simpa using hRframes) hRlocals (by simp) hRcells (by rw [hn]; exact hRslots)
  have hlt : W.heap.size < ((W.pushCell (freshCell P1.m.cls N.kN)).setVm vm').heap.size := by
    show W.heap.size < (W.pushCell (freshCell P1.m.cls N.kN)).heap.size
    rw [State.heap_size_pushCell]; omega
  rw [hfsz] at X3
  obtain ⟨g₁, hfrM⟩ := X3.frames_eq
  have hU : ((((W.pushCell (freshCell P1.m.cls N.kN)).setVm vm').setCell W.heap.size (npeBareV T.toThrowableT N.toNpeT (freshCell P1.m.cls N.kN) W.heap.size u0 sen)).setTop g).pushFrame (.throwing W.heap.size) = (((W.pushCell (freshCell P1.m.cls N.kN)).setVm vm').setCell W.heap.size (npeBareV T.toThrowableT N.toNpeT (freshCell P1.m.cls N.kN) W.heap.size u0 sen)).setFrames (.throwing W.heap.size :: .java g :: below) := by
    rw [State.pushFrame, State.frames_setTop _ hfrM, State.setTop_of_frames _ hfrM, State.setFrames_setFrames]
  refine ⟨_, W.heap.size, _, fun target ht => st.trans (by rw [← hU]; exact ht), X3.forget (fun y hy => ?_), heapAt_setCell_self _ hlt, hfound, rfl⟩
  simp only [List.mem_cons, List.not_mem_nil, or_false] at hy
  have hge : s.heap.size ≤ W.heap.size := X.same.2.1
  rcases hy with rfl | rfl | rfl | rfl | rfl <;> exact hge
/-- the words of a machine's NullPointerException, but the four that speak of the heap -/
def vx_atN (n : Nat) : List Cond := (Bundle.npeArmAtoms n).filter vx_no
/-- the words of a machine's throw with a message, but the four that speak of the heap -/
def vx_atM (X : String) (names : List String) : List Cond := (Bundle.messageArmAtoms X names).filter vx_no
section
variable {p : Program} {l : Launch} {e : Env} {R : Room} {s : State} {m : MethodId} {args : Array Value} {below : List Frame} {meth : Method} {c : Code} {H : Heap} {locs : List Loc} {cells slots : Nat}
/-- a frame seen from a rebased start, seen from the first start again -/
theorem vx_back9 {T S : State} {R' : Room} {k n : Nat} (X : Stand p l e R s m args below meth c T locs cells slots) (Y : Stand p l e R' ((T.setVm s.vm).setFrames (.invoking m args :: below)) m args below meth c T [] 0 0) (Z : Stand p l e R' ((T.setVm s.vm).setFrames (.invoking m args :: below)) m args below meth c S [] k n) :
    Stand p l e R s m args below meth c S locs (cells + k) (slots + n) := by
  have hW0 : s.WarmedH ((T.setVm s.vm).setFrames (.invoking m args :: below)).vm := State.WarmedH.refl s
  refine { admits := X.admits, cas := X.cas, clock := X.clock, frames := X.frames, room := X.room, hears := X.hears, method := X.method, code := X.code, here := Z.here, tail := Z.tail, warmed := State.WarmedH.trans hW0 Z.warmed, limits := Z.limits.trans (Y.limits.symm.trans X.limits), bytes := Z.bytes.trans (Y.bytes.symm.trans X.bytes), same := ?_ }
  obtain ⟨e1, e2⟩ := Z.same
  rw [State.setFrames_setFrames] at e1
  have h2 : (T.setVm s.vm).sameButNew (S.setVm s.vm) [] k n := ⟨e1, e2⟩
  have h3 := X.same.trans h2
  rw [List.append_nil] at h3
  exact h3
/-- from the machine's note that E is thrown here with this text -/
def vx_Note (p : Program) (l : Launch) (e : Env) (R : Room) (s : State) (m : MethodId) (args : Array Value) (below : List Frame) (meth : Method) (c : Code) (H : Heap) (locs : List Loc) (cells slots : Nat) (Q : State → Prop) (g : JFrame) (E text : String) : Prop :=
  ∀ T : State, T.heap = H → Stand p l e R s m args below meth c T locs cells slots → ∃ t, Steps p.tables e below ((T.setTop g).pushFrame (.throwNew E (some text) none)) t ∧ Q t
theorem vx_vm {pc : Nat} {ls : Array Slot} {rest : List Value} {Q : State → Prop} (hexec : p.tables.exec = Jvm.exec) (hl : l.stackTraces = false) {cls text : String} {names : List String} {nb : Nat} {A : Nat → Prop}
    (hcls : Bundle.fit cls = true) (hnames : ∀ n ∈ names, Bundle.fit n = true) (hsoe : (cls == "java/lang/StackOverflowError") = false) (hoom : (cls == "java/lang/OutOfMemoryError") = false)
    (hat : ∀ w ∈ vx_atM cls names, w.before args s = true) (hgood : ∀ w ∈ vx_atM cls names, vx_ot w = true)
    (hU : vx_Zq Bundle.tN "UNASSIGNED_STACK" Bundle.steD A s s.heap) (hN : vx_Zq Bundle.tN "SUPPRESSED_SENTINEL" Bundle.listD A s s.heap) (hS : va_S A s.heap H locs) (hsize : ls.size = c.maxLocals)
    (htext : (text == notModelled) = false) (hnb : (stringBytes (stringToUtf16 text)).size ≤ nb) (hnb1 : nb ≤ 1000)
    (hRframes : names.length + 4 < R.frames) (hRlocals : (rest.map fun v => v.category).sum + 10240 ≤ R.locals) (hshort : 13 * names.length + 55 ≤ 10240) (hRcells : cells + 3 ≤ R.cells) (hRslots : slots + (nb + 10) ≤ R.slots) (hlocks : meth.locks = false)
    (k : ∀ (H1 : Heap) (q9 : Addr) (ce : Cell), H.size ≤ H1.size → (∀ q : Nat, q < H.size → H1[q]? = H[q]?) → va_S A s.heap H1 locs → H1[q9]? = some ce → ce.vm = .none → s.vm.findClass cls = some ce.cls → vx_W p l e R s m args below meth c H1 locs (cells + 3) (slots + (nb + 10)) Q (F0 m pc ls rest) q9) :
    vx_Note p l e R s m args below meth c H locs cells slots Q (F0 m pc ls rest) cls text := by
  intro T hT X
  have htr : e.platform.stackTraces = false := (show e.platform.stackTraces = l.stackTraces by rw [X.admits.platform]).trans hl
  have Y := vx_rebase X (R' := { frames := R.frames, locals := R.locals, cells := 3, slots := nb + 10 }) (Nat.le_refl _) (Nat.le_refl _) hRcells hRslots
  have hhp : ((T.setVm s.vm).setFrames (.invoking m args :: below)).heap = H := hT
  have hW0 : s.WarmedH ((T.setVm s.vm).setFrames (.invoking m args :: below)).vm := State.WarmedH.refl s
  have hat' : ∀ w ∈ vx_atM cls names, w.before args ((T.setVm s.vm).setFrames (.invoking m args :: below)) = true := fun w hw => vx_ot_at hW0 rfl (hgood w hw) (hat w hw)
  have hU' : vx_Zq Bundle.tN "UNASSIGNED_STACK" Bundle.steD A ((T.setVm s.vm).setFrames (.invoking m args :: below)) ((T.setVm s.vm).setFrames (.invoking m args :: below)).heap := by rw [hhp]; exact vx_Zq.moved hW0.alike (hU.kept hS.2.1)
  have hN' : vx_Zq Bundle.tN "SUPPRESSED_SENTINEL" Bundle.listD A ((T.setVm s.vm).setFrames (.invoking m args :: below)) ((T.setVm s.vm).setFrames (.invoking m args :: below)).heap := by rw [hhp]; exact vx_Zq.moved hW0.alike (hN.kept hS.2.1)
  obtain ⟨S, q, ce, st, Z, hce, hcl', hv⟩ := vx_vmAt Y hexec htr (cls := cls) (names := names) (text := text) hcls hnames hsoe hoom (vx_own hat' (vx_isRefq hU'.1) (vx_isRefq hN'.1) hU'.2.word hN'.2.word) (fun x hx => nomatch hx) htext
    (by rw [Launch.admits_arrayLengthLimit X.admits]; omega) (by rw [Launch.admits_maxHeapBytes X.admits]; simp only [componentBytes]; omega)
    (g := F0 m pc ls rest) rfl hsize hRframes (by show 2 * 0 + (rest.map fun v => v.category).sum + 10240 ≤ R.locals; omega) hshort (by show 0 + 3 ≤ 3; omega) (by show 0 + (_ + 4 + 6) ≤ nb + 10; omega) hlocks
  obtain ⟨f1, f2⟩ := vx_frame Z.same
  have f1' : H.size ≤ S.heap.size := by rw [← hT]; exact f1
  have f2' : ∀ q : Nat, q < H.size → S.heap[q]? = H[q]? := fun q hq => by
    rw [← hT]
    exact f2 q (by rw [← hT] at hq; exact hq) (fun z hz => nomatch hz)
  have X5 := vx_back9 X Y Z
  have X6 : Stand p l e R s m args below meth c S locs (cells + 3) (slots + (nb + 10)) := { X5 with same := X5.same.mono (by omega) (by omega) }
  obtain ⟨t, a1, b1⟩ := k S.heap q ce f1' f2' ⟨Nat.le_trans hS.1 f1', fun q h1 h2 => (f2' q (Nat.lt_of_lt_of_le h1 hS.1)).trans (hS.2.1 q h1 h2), hS.2.2⟩ hce hv hcl' S rfl X6
  exact ⟨t, st t a1, b1⟩
/-- from the machine's note that NullPointerException is thrown here -/
def vx_NoteN (p : Program) (l : Launch) (e : Env) (R : Room) (s : State) (m : MethodId) (args : Array Value) (below : List Frame) (meth : Method) (c : Code) (H : Heap) (locs : List Loc) (cells slots : Nat) (Q : State → Prop) (g : JFrame) : Prop :=
  ∀ T : State, T.heap = H → Stand p l e R s m args below meth c T locs cells slots → ∃ t, Steps p.tables e below ((T.setTop g).pushFrame (.throwNew "java/lang/NullPointerException" none none)) t ∧ Q t
theorem vx_npe {pc : Nat} {ls : Array Slot} {rest : List Value} {Q : State → Prop} (hexec : p.tables.exec = Jvm.exec) (hl : l.stackTraces = false) {nb : Nat} {A : Nat → Prop}
    (hat : ∀ w ∈ vx_atN nb, w.before args s = true) (hgood : ∀ w ∈ vx_atN nb, vx_ot w = true)
    (hU : vx_Zq Bundle.tN "UNASSIGNED_STACK" Bundle.steD A s s.heap) (hN : vx_Zq Bundle.tN "SUPPRESSED_SENTINEL" Bundle.listD A s s.heap) (hS : va_S A s.heap H locs) (hsize : ls.size = c.maxLocals)
    (hRframes : 7 < R.frames) (hRlocals : (rest.map fun v => v.category).sum + 10240 ≤ R.locals) (hRcells : cells + 1 ≤ R.cells) (hRslots : slots + nb ≤ R.slots) (hlocks : meth.locks = false)
    (k : ∀ (H1 : Heap) (q9 : Addr) (ce : Cell), H.size ≤ H1.size → (∀ q : Nat, q < H.size → H1[q]? = H[q]?) → va_S A s.heap H1 locs → H1[q9]? = some ce → ce.vm = .none → s.vm.findClass "java/lang/NullPointerException" = some ce.cls → vx_W p l e R s m args below meth c H1 locs (cells + 1) (slots + nb) Q (F0 m pc ls rest) q9) :
    vx_NoteN p l e R s m args below meth c H locs cells slots Q (F0 m pc ls rest) := by
  intro T hT X
  have htr : e.platform.stackTraces = false := (show e.platform.stackTraces = l.stackTraces by rw [X.admits.platform]).trans hl
  have Y := vx_rebase X (R' := { frames := R.frames, locals := R.locals, cells := 1, slots := nb }) (Nat.le_refl _) (Nat.le_refl _) hRcells hRslots
  have hhp : ((T.setVm s.vm).setFrames (.invoking m args :: below)).heap = H := hT
  have hW0 : s.WarmedH ((T.setVm s.vm).setFrames (.invoking m args :: below)).vm := State.WarmedH.refl s
  have hat' : ∀ w ∈ vx_atN nb, w.before args ((T.setVm s.vm).setFrames (.invoking m args :: below)) = true := fun w hw => vx_ot_at hW0 rfl (hgood w hw) (hat w hw)
  have hU' : vx_Zq Bundle.tN "UNASSIGNED_STACK" Bundle.steD A ((T.setVm s.vm).setFrames (.invoking m args :: below)) ((T.setVm s.vm).setFrames (.invoking m args :: below)).heap := by rw [hhp]; exact vx_Zq.moved hW0.alike (hU.kept hS.2.1)
  have hN' : vx_Zq Bundle.tN "SUPPRESSED_SENTINEL" Bundle.listD A ((T.setVm s.vm).setFrames (.invoking m args :: below)) ((T.setVm s.vm).setFrames (.invoking m args :: below)).heap := by rw [hhp]; exact vx_Zq.moved hW0.alike (hN.kept hS.2.1)
  obtain ⟨S, q, ce, st, Z, hce, hcl', hv⟩ := vx_npeAt Y hexec htr (n := nb) (vx_own hat' (vx_isRefq hU'.1) (vx_isRefq hN'.1) hU'.2.word hN'.2.word) (fun x hx => nomatch hx)
    (g := F0 m pc ls rest) rfl hsize hRframes (by show 2 * 0 + (rest.map fun v => v.category).sum + 10240 ≤ R.locals; omega) (by show 0 + 1 ≤ 1; omega) (by show 0 + nb ≤ nb; omega) hlocks
  obtain ⟨f1, f2⟩ := vx_frame Z.same
  have f1' : H.size ≤ S.heap.size := by rw [← hT]; exact f1
  have f2' : ∀ q : Nat, q < H.size → S.heap[q]? = H[q]? := fun q hq => by
    rw [← hT]
    exact f2 q (by rw [← hT] at hq; exact hq) (fun z hz => nomatch hz)
  have X5 := vx_back9 X Y Z
  have X6 : Stand p l e R s m args below meth c S locs (cells + 1) (slots + nb) := { X5 with same := X5.same.mono (by omega) (by omega) }
  obtain ⟨t, a1, b1⟩ := k S.heap q ce f1' f2' ⟨Nat.le_trans hS.1 f1', fun q h1 h2 => (f2' q (Nat.lt_of_lt_of_le h1 hS.1)).trans (hS.2.1 q h1 h2), hS.2.2⟩ hce hv hcl' S rfl X6
  exact ⟨t, st t a1, b1⟩
variable {Q : State → Prop} {cc : ByteArray} {pc : Nat} {ls : Array Slot} {rest : List Value}
theorem vx_idivZ (hexec : p.tables.exec = Jvm.exec) (hb : c.code = cc) {a b : Int32} (h0 : b = 0) (d : decode cc pc = .ok (.idiv, 1)) (k : vx_Note p l e R s m args below meth c H locs cells slots Q (F0 m pc ls rest) "java/lang/ArithmeticException" "/ by zero") :
    W p l e R s m args below meth c H locs cells slots Q (F0 m pc ls (.int b :: .int a :: rest)) := by
  intro T hT X
  obtain ⟨t, st, q⟩ := k T hT X
  exact ⟨t, X.idivZero hexec (g := F0 m pc ls (.int b :: .int a :: rest)) rfl (a := a) (rest := rest) (by rw [h0]) (by rw [hb]; exact d) t st, q⟩
theorem vx_iremZ (hexec : p.tables.exec = Jvm.exec) (hb : c.code = cc) {a b : Int32} (h0 : b = 0) (d : decode cc pc = .ok (.irem, 1)) (k : vx_Note p l e R s m args below meth c H locs cells slots Q (F0 m pc ls rest) "java/lang/ArithmeticException" "/ by zero") :
    W p l e R s m args below meth c H locs cells slots Q (F0 m pc ls (.int b :: .int a :: rest)) := by
  intro T hT X
  obtain ⟨t, st, q⟩ := k T hT X
  exact ⟨t, X.iremZero hexec (g := F0 m pc ls (.int b :: .int a :: rest)) rfl (a := a) (rest := rest) (by rw [h0]) (by rw [hb]; exact d) t st, q⟩
theorem vx_ldivZ (hexec : p.tables.exec = Jvm.exec) (hb : c.code = cc) {a b : Int64} (h0 : b = 0) (d : decode cc pc = .ok (.ldiv, 1)) (k : vx_Note p l e R s m args below meth c H locs cells slots Q (F0 m pc ls rest) "java/lang/ArithmeticException" "/ by zero") :
    W p l e R s m args below meth c H locs cells slots Q (F0 m pc ls (.long b :: .long a :: rest)) := by
  intro T hT X
  obtain ⟨t, st, q⟩ := k T hT X
  exact ⟨t, X.ldivZero hexec (g := F0 m pc ls (.long b :: .long a :: rest)) rfl (a := a) (rest := rest) (by rw [h0]) (by rw [hb]; exact d) t st, q⟩
theorem vx_lremZ (hexec : p.tables.exec = Jvm.exec) (hb : c.code = cc) {a b : Int64} (h0 : b = 0) (d : decode cc pc = .ok (.lrem, 1)) (k : vx_Note p l e R s m args below meth c H locs cells slots Q (F0 m pc ls rest) "java/lang/ArithmeticException" "/ by zero") :
    W p l e R s m args below meth c H locs cells slots Q (F0 m pc ls (.long b :: .long a :: rest)) := by
  intro T hT X
  obtain ⟨t, st, q⟩ := k T hT X
  exact ⟨t, X.lremZero hexec (g := F0 m pc ls (.long b :: .long a :: rest)) rfl (a := a) (rest := rest) (by rw [h0]) (by rw [hb]; exact d) t st, q⟩
theorem vx_ialdZ {D : va_G} {cl : List vw_C} {ws : va_W} {tys : List (ClassId × FieldType)} {a : Nat} (hexec : p.tables.exec = Jvm.exec) (hb : c.code = cc) (hK : va_K D cl tys s) (hP : va_P D cl ws H) (q0 t0 : Nat) {cA : ClassId} {n : Nat} {f : Nat → Int32} (ha : ws[q0]? = some (a, .inl (cA, n, .inl f))) (ht : tys[t0]? = some (cA, .int)) {i : Int32} (hout : ¬ vp_in i n) (hdg : decode cc pc = .ok (.iaload, 1))
    (k : ∀ tx : String, tx = (toString "Index " ++ toString i ++ toString " out of bounds for length " ++ toString n : String) → vx_Note p l e R s m args below meth c H locs cells slots Q (F0 m pc ls rest) "java/lang/ArrayIndexOutOfBoundsException" tx) : W p l e R s m args below meth c H locs cells slots Q (F0 m pc ls (.int i :: .ref a :: rest)) := by
  intro T hT X
  obtain ⟨t, st, q⟩ := k _ rfl T hT X
  refine ⟨t, ?_, q⟩
  have h1 := X.ialoadOut hexec (by rw [hT]; exact hP q0 _ ha) ((hK.2 t0 _ ht).1 n (fun j => .int (f j))) (j := i) (by show (i < 0 ∨ (arrV _ _ _).slots.size ≤ _); rw [arrV_size]; exact Classical.byContradiction hout) (g := F0 m pc ls (.int i :: .ref a :: rest)) rfl (rest := rest) rfl (by rw [hb]; exact hdg) t
  simp only [arrV_size] at h1
  exact h1 st
theorem vx_iastZ {D : va_G} {cl : List vw_C} {ws : va_W} {tys : List (ClassId × FieldType)} {a : Nat} (hexec : p.tables.exec = Jvm.exec) (hb : c.code = cc) (hK : va_K D cl tys s) (hP : va_P D cl ws H) (q0 t0 : Nat) {cA : ClassId} {n : Nat} {f : Nat → Int32} (ha : ws[q0]? = some (a, .inl (cA, n, .inl f))) (ht : tys[t0]? = some (cA, .int)) {i : Int32} {x : Int32} (hout : ¬ vp_in i n) (hdg : decode cc pc = .ok (.iastore, 1))
    (k : ∀ tx : String, tx = (toString "Index " ++ toString i ++ toString " out of bounds for length " ++ toString n : String) → vx_Note p l e R s m args below meth c H locs cells slots Q (F0 m pc ls rest) "java/lang/ArrayIndexOutOfBoundsException" tx) : W p l e R s m args below meth c H locs cells slots Q (F0 m pc ls (.int x :: .int i :: .ref a :: rest)) := by
  intro T hT X
  obtain ⟨t, st, q⟩ := k _ rfl T hT X
  refine ⟨t, ?_, q⟩
  have h1 := X.iastoreOut hexec (by rw [hT]; exact hP q0 _ ha) ((hK.2 t0 _ ht).1 n (fun j => .int (f j))) (j := i) (by show (i < 0 ∨ (arrV _ _ _).slots.size ≤ _); rw [arrV_size]; exact Classical.byContradiction hout) (g := F0 m pc ls (.int x :: .int i :: .ref a :: rest)) rfl (rest := rest) rfl (by rw [hb]; exact hdg) t
  simp only [arrV_size] at h1
  exact h1 st
theorem vx_baldZ {D : va_G} {cl : List vw_C} {ws : va_W} {tys : List (ClassId × FieldType)} {a : Nat} (hexec : p.tables.exec = Jvm.exec) (hb : c.code = cc) (hK : va_K D cl tys s) (hP : va_P D cl ws H) (q0 t0 : Nat) {cA : ClassId} {n : Nat} {f : Nat → Int32} (ha : ws[q0]? = some (a, .inl (cA, n, .inl f))) (ht : tys[t0]? = some (cA, .byte)) {i : Int32} (hout : ¬ vp_in i n) (hdg : decode cc pc = .ok (.baload, 1))
    (k : ∀ tx : String, tx = (toString "Index " ++ toString i ++ toString " out of bounds for length " ++ toString n : String) → vx_Note p l e R s m args below meth c H locs cells slots Q (F0 m pc ls rest) "java/lang/ArrayIndexOutOfBoundsException" tx) : W p l e R s m args below meth c H locs cells slots Q (F0 m pc ls (.int i :: .ref a :: rest)) := by
  intro T hT X
  obtain ⟨t, st, q⟩ := k _ rfl T hT X
  refine ⟨t, ?_, q⟩
  have h1 := X.baloadOut hexec (by rw [hT]; exact hP q0 _ ha) ((hK.2 t0 _ ht).1 n (fun j => .int (f j))) (j := i) (by show (i < 0 ∨ (arrV _ _ _).slots.size ≤ _); rw [arrV_size]; exact Classical.byContradiction hout) (g := F0 m pc ls (.int i :: .ref a :: rest)) rfl (rest := rest) rfl (by rw [hb]; exact hdg) t
  simp only [arrV_size] at h1
  exact h1 st
theorem vx_bastZ {D : va_G} {cl : List vw_C} {ws : va_W} {tys : List (ClassId × FieldType)} {a : Nat} (hexec : p.tables.exec = Jvm.exec) (hb : c.code = cc) (hK : va_K D cl tys s) (hP : va_P D cl ws H) (q0 t0 : Nat) {cA : ClassId} {n : Nat} {f : Nat → Int32} (ha : ws[q0]? = some (a, .inl (cA, n, .inl f))) (ht : tys[t0]? = some (cA, .byte)) {i : Int32} {x : Int32} (hout : ¬ vp_in i n) (hdg : decode cc pc = .ok (.bastore, 1))
    (k : ∀ tx : String, tx = (toString "Index " ++ toString i ++ toString " out of bounds for length " ++ toString n : String) → vx_Note p l e R s m args below meth c H locs cells slots Q (F0 m pc ls rest) "java/lang/ArrayIndexOutOfBoundsException" tx) : W p l e R s m args below meth c H locs cells slots Q (F0 m pc ls (.int x :: .int i :: .ref a :: rest)) := by
  intro T hT X
  obtain ⟨t, st, q⟩ := k _ rfl T hT X
  refine ⟨t, ?_, q⟩
  have h1 := X.bastoreOut hexec (by rw [hT]; exact hP q0 _ ha) ((hK.2 t0 _ ht).1 n (fun j => .int (f j))) (j := i) (by show (i < 0 ∨ (arrV _ _ _).slots.size ≤ _); rw [arrV_size]; exact Classical.byContradiction hout) (g := F0 m pc ls (.int x :: .int i :: .ref a :: rest)) rfl (rest := rest) rfl (by rw [hb]; exact hdg) t
  simp only [arrV_size] at h1
  exact h1 st
theorem vx_zaldZ {D : va_G} {cl : List vw_C} {ws : va_W} {tys : List (ClassId × FieldType)} {a : Nat} (hexec : p.tables.exec = Jvm.exec) (hb : c.code = cc) (hK : va_K D cl tys s) (hP : va_P D cl ws H) (q0 t0 : Nat) {cA : ClassId} {n : Nat} {f : Nat → Int32} (ha : ws[q0]? = some (a, .inl (cA, n, .inl f))) (ht : tys[t0]? = some (cA, .boolean)) {i : Int32} (hout : ¬ vp_in i n) (hdg : decode cc pc = .ok (.baload, 1))
    (k : ∀ tx : String, tx = (toString "Index " ++ toString i ++ toString " out of bounds for length " ++ toString n : String) → vx_Note p l e R s m args below meth c H locs cells slots Q (F0 m pc ls rest) "java/lang/ArrayIndexOutOfBoundsException" tx) : W p l e R s m args below meth c H locs cells slots Q (F0 m pc ls (.int i :: .ref a :: rest)) := by
  intro T hT X
  obtain ⟨t, st, q⟩ := k _ rfl T hT X
  refine ⟨t, ?_, q⟩
  have h1 := X.baloadOut hexec (by rw [hT]; exact hP q0 _ ha) ((hK.2 t0 _ ht).1 n (fun j => .int (f j))) (j := i) (by show (i < 0 ∨ (arrV _ _ _).slots.size ≤ _); rw [arrV_size]; exact Classical.byContradiction hout) (g := F0 m pc ls (.int i :: .ref a :: rest)) rfl (rest := rest) rfl (by rw [hb]; exact hdg) t
  simp only [arrV_size] at h1
  exact h1 st
theorem vx_zastZ {D : va_G} {cl : List vw_C} {ws : va_W} {tys : List (ClassId × FieldType)} {a : Nat} (hexec : p.tables.exec = Jvm.exec) (hb : c.code = cc) (hK : va_K D cl tys s) (hP : va_P D cl ws H) (q0 t0 : Nat) {cA : ClassId} {n : Nat} {f : Nat → Int32} (ha : ws[q0]? = some (a, .inl (cA, n, .inl f))) (ht : tys[t0]? = some (cA, .boolean)) {i : Int32} {x : Int32} (hout : ¬ vp_in i n) (hdg : decode cc pc = .ok (.bastore, 1))
    (k : ∀ tx : String, tx = (toString "Index " ++ toString i ++ toString " out of bounds for length " ++ toString n : String) → vx_Note p l e R s m args below meth c H locs cells slots Q (F0 m pc ls rest) "java/lang/ArrayIndexOutOfBoundsException" tx) : W p l e R s m args below meth c H locs cells slots Q (F0 m pc ls (.int x :: .int i :: .ref a :: rest)) := by
  intro T hT X
  obtain ⟨t, st, q⟩ := k _ rfl T hT X
  refine ⟨t, ?_, q⟩
  have h1 := X.bastoreOut hexec (by rw [hT]; exact hP q0 _ ha) ((hK.2 t0 _ ht).1 n (fun j => .int (f j))) (j := i) (by show (i < 0 ∨ (arrV _ _ _).slots.size ≤ _); rw [arrV_size]; exact Classical.byContradiction hout) (g := F0 m pc ls (.int x :: .int i :: .ref a :: rest)) rfl (rest := rest) rfl (by rw [hb]; exact hdg) t
  simp only [arrV_size] at h1
  exact h1 st
theorem vx_caldZ {D : va_G} {cl : List vw_C} {ws : va_W} {tys : List (ClassId × FieldType)} {a : Nat} (hexec : p.tables.exec = Jvm.exec) (hb : c.code = cc) (hK : va_K D cl tys s) (hP : va_P D cl ws H) (q0 t0 : Nat) {cA : ClassId} {n : Nat} {f : Nat → Int32} (ha : ws[q0]? = some (a, .inl (cA, n, .inl f))) (ht : tys[t0]? = some (cA, .char)) {i : Int32} (hout : ¬ vp_in i n) (hdg : decode cc pc = .ok (.caload, 1))
    (k : ∀ tx : String, tx = (toString "Index " ++ toString i ++ toString " out of bounds for length " ++ toString n : String) → vx_Note p l e R s m args below meth c H locs cells slots Q (F0 m pc ls rest) "java/lang/ArrayIndexOutOfBoundsException" tx) : W p l e R s m args below meth c H locs cells slots Q (F0 m pc ls (.int i :: .ref a :: rest)) := by
  intro T hT X
  obtain ⟨t, st, q⟩ := k _ rfl T hT X
  refine ⟨t, ?_, q⟩
  have h1 := X.caloadOut hexec (by rw [hT]; exact hP q0 _ ha) ((hK.2 t0 _ ht).1 n (fun j => .int (f j))) (j := i) (by show (i < 0 ∨ (arrV _ _ _).slots.size ≤ _); rw [arrV_size]; exact Classical.byContradiction hout) (g := F0 m pc ls (.int i :: .ref a :: rest)) rfl (rest := rest) rfl (by rw [hb]; exact hdg) t
  simp only [arrV_size] at h1
  exact h1 st
theorem vx_castZ {D : va_G} {cl : List vw_C} {ws : va_W} {tys : List (ClassId × FieldType)} {a : Nat} (hexec : p.tables.exec = Jvm.exec) (hb : c.code = cc) (hK : va_K D cl tys s) (hP : va_P D cl ws H) (q0 t0 : Nat) {cA : ClassId} {n : Nat} {f : Nat → Int32} (ha : ws[q0]? = some (a, .inl (cA, n, .inl f))) (ht : tys[t0]? = some (cA, .char)) {i : Int32} {x : Int32} (hout : ¬ vp_in i n) (hdg : decode cc pc = .ok (.castore, 1))
    (k : ∀ tx : String, tx = (toString "Index " ++ toString i ++ toString " out of bounds for length " ++ toString n : String) → vx_Note p l e R s m args below meth c H locs cells slots Q (F0 m pc ls rest) "java/lang/ArrayIndexOutOfBoundsException" tx) : W p l e R s m args below meth c H locs cells slots Q (F0 m pc ls (.int x :: .int i :: .ref a :: rest)) := by
  intro T hT X
  obtain ⟨t, st, q⟩ := k _ rfl T hT X
  refine ⟨t, ?_, q⟩
  have h1 := X.castoreOut hexec (by rw [hT]; exact hP q0 _ ha) ((hK.2 t0 _ ht).1 n (fun j => .int (f j))) (j := i) (by show (i < 0 ∨ (arrV _ _ _).slots.size ≤ _); rw [arrV_size]; exact Classical.byContradiction hout) (g := F0 m pc ls (.int x :: .int i :: .ref a :: rest)) rfl (rest := rest) rfl (by rw [hb]; exact hdg) t
  simp only [arrV_size] at h1
  exact h1 st
theorem vx_saldZ {D : va_G} {cl : List vw_C} {ws : va_W} {tys : List (ClassId × FieldType)} {a : Nat} (hexec : p.tables.exec = Jvm.exec) (hb : c.code = cc) (hK : va_K D cl tys s) (hP : va_P D cl ws H) (q0 t0 : Nat) {cA : ClassId} {n : Nat} {f : Nat → Int32} (ha : ws[q0]? = some (a, .inl (cA, n, .inl f))) (ht : tys[t0]? = some (cA, .short)) {i : Int32} (hout : ¬ vp_in i n) (hdg : decode cc pc = .ok (.saload, 1))
    (k : ∀ tx : String, tx = (toString "Index " ++ toString i ++ toString " out of bounds for length " ++ toString n : String) → vx_Note p l e R s m args below meth c H locs cells slots Q (F0 m pc ls rest) "java/lang/ArrayIndexOutOfBoundsException" tx) : W p l e R s m args below meth c H locs cells slots Q (F0 m pc ls (.int i :: .ref a :: rest)) := by
  intro T hT X
  obtain ⟨t, st, q⟩ := k _ rfl T hT X
  refine ⟨t, ?_, q⟩
  have h1 := X.saloadOut hexec (by rw [hT]; exact hP q0 _ ha) ((hK.2 t0 _ ht).1 n (fun j => .int (f j))) (j := i) (by show (i < 0 ∨ (arrV _ _ _).slots.size ≤ _); rw [arrV_size]; exact Classical.byContradiction hout) (g := F0 m pc ls (.int i :: .ref a :: rest)) rfl (rest := rest) rfl (by rw [hb]; exact hdg) t
  simp only [arrV_size] at h1
  exact h1 st
theorem vx_sastZ {D : va_G} {cl : List vw_C} {ws : va_W} {tys : List (ClassId × FieldType)} {a : Nat} (hexec : p.tables.exec = Jvm.exec) (hb : c.code = cc) (hK : va_K D cl tys s) (hP : va_P D cl ws H) (q0 t0 : Nat) {cA : ClassId} {n : Nat} {f : Nat → Int32} (ha : ws[q0]? = some (a, .inl (cA, n, .inl f))) (ht : tys[t0]? = some (cA, .short)) {i : Int32} {x : Int32} (hout : ¬ vp_in i n) (hdg : decode cc pc = .ok (.sastore, 1))
    (k : ∀ tx : String, tx = (toString "Index " ++ toString i ++ toString " out of bounds for length " ++ toString n : String) → vx_Note p l e R s m args below meth c H locs cells slots Q (F0 m pc ls rest) "java/lang/ArrayIndexOutOfBoundsException" tx) : W p l e R s m args below meth c H locs cells slots Q (F0 m pc ls (.int x :: .int i :: .ref a :: rest)) := by
  intro T hT X
  obtain ⟨t, st, q⟩ := k _ rfl T hT X
  refine ⟨t, ?_, q⟩
  have h1 := X.sastoreOut hexec (by rw [hT]; exact hP q0 _ ha) ((hK.2 t0 _ ht).1 n (fun j => .int (f j))) (j := i) (by show (i < 0 ∨ (arrV _ _ _).slots.size ≤ _); rw [arrV_size]; exact Classical.byContradiction hout) (g := F0 m pc ls (.int x :: .int i :: .ref a :: rest)) rfl (rest := rest) rfl (by rw [hb]; exact hdg) t
  simp only [arrV_size] at h1
  exact h1 st
theorem vx_laldZ {D : va_G} {cl : List vw_C} {ws : va_W} {tys : List (ClassId × FieldType)} {a : Nat} (hexec : p.tables.exec = Jvm.exec) (hb : c.code = cc) (hK : va_K D cl tys s) (hP : va_P D cl ws H) (q0 t0 : Nat) {cA : ClassId} {n : Nat} {f : Nat → Int64} (ha : ws[q0]? = some (a, .inl (cA, n, .inr (.inl f)))) (ht : tys[t0]? = some (cA, .long)) {i : Int32} (hout : ¬ vp_in i n) (hdg : decode cc pc = .ok (.laload, 1))
    (k : ∀ tx : String, tx = (toString "Index " ++ toString i ++ toString " out of bounds for length " ++ toString n : String) → vx_Note p l e R s m args below meth c H locs cells slots Q (F0 m pc ls rest) "java/lang/ArrayIndexOutOfBoundsException" tx) : W p l e R s m args below meth c H locs cells slots Q (F0 m pc ls (.int i :: .ref a :: rest)) := by
  intro T hT X
  obtain ⟨t, st, q⟩ := k _ rfl T hT X
  refine ⟨t, ?_, q⟩
  have h1 := X.laloadOut hexec (by rw [hT]; exact hP q0 _ ha) ((hK.2 t0 _ ht).1 n (fun j => .long (f j))) (j := i) (by show (i < 0 ∨ (arrV _ _ _).slots.size ≤ _); rw [arrV_size]; exact Classical.byContradiction hout) (g := F0 m pc ls (.int i :: .ref a :: rest)) rfl (rest := rest) rfl (by rw [hb]; exact hdg) t
  simp only [arrV_size] at h1
  exact h1 st
theorem vx_lastZ {D : va_G} {cl : List vw_C} {ws : va_W} {tys : List (ClassId × FieldType)} {a : Nat} (hexec : p.tables.exec = Jvm.exec) (hb : c.code = cc) (hK : va_K D cl tys s) (hP : va_P D cl ws H) (q0 t0 : Nat) {cA : ClassId} {n : Nat} {f : Nat → Int64} (ha : ws[q0]? = some (a, .inl (cA, n, .inr (.inl f)))) (ht : tys[t0]? = some (cA, .long)) {i : Int32} {x : Int64} (hout : ¬ vp_in i n) (hdg : decode cc pc = .ok (.lastore, 1))
    (k : ∀ tx : String, tx = (toString "Index " ++ toString i ++ toString " out of bounds for length " ++ toString n : String) → vx_Note p l e R s m args below meth c H locs cells slots Q (F0 m pc ls rest) "java/lang/ArrayIndexOutOfBoundsException" tx) : W p l e R s m args below meth c H locs cells slots Q (F0 m pc ls (.long x :: .int i :: .ref a :: rest)) := by
  intro T hT X
  obtain ⟨t, st, q⟩ := k _ rfl T hT X
  refine ⟨t, ?_, q⟩
  have h1 := X.lastoreOut hexec (by rw [hT]; exact hP q0 _ ha) ((hK.2 t0 _ ht).1 n (fun j => .long (f j))) (j := i) (by show (i < 0 ∨ (arrV _ _ _).slots.size ≤ _); rw [arrV_size]; exact Classical.byContradiction hout) (g := F0 m pc ls (.long x :: .int i :: .ref a :: rest)) rfl (rest := rest) rfl (by rw [hb]; exact hdg) t
  simp only [arrV_size] at h1
  exact h1 st
theorem vx_faldZ {D : va_G} {cl : List vw_C} {ws : va_W} {tys : List (ClassId × FieldType)} {a : Nat} (hexec : p.tables.exec = Jvm.exec) (hb : c.code = cc) (hK : va_K D cl tys s) (hP : va_P D cl ws H) (q0 t0 : Nat) {cA : ClassId} {n : Nat} {f : Nat → UInt32} (ha : ws[q0]? = some (a, .inl (cA, n, .inr (.inr (.inl f))))) (ht : tys[t0]? = some (cA, .float)) {i : Int32} (hout : ¬ vp_in i n) (hdg : decode cc pc = .ok (.faload, 1))
    (k : ∀ tx : String, tx = (toString "Index " ++ toString i ++ toString " out of bounds for length " ++ toString n : String) → vx_Note p l e R s m args below meth c H locs cells slots Q (F0 m pc ls rest) "java/lang/ArrayIndexOutOfBoundsException" tx) : W p l e R s m args below meth c H locs cells slots Q (F0 m pc ls (.int i :: .ref a :: rest)) := by
  intro T hT X
  obtain ⟨t, st, q⟩ := k _ rfl T hT X
  refine ⟨t, ?_, q⟩
  have h1 := X.faloadOut hexec (by rw [hT]; exact hP q0 _ ha) ((hK.2 t0 _ ht).1 n (fun j => .float (f j))) (j := i) (by show (i < 0 ∨ (arrV _ _ _).slots.size ≤ _); rw [arrV_size]; exact Classical.byContradiction hout) (g := F0 m pc ls (.int i :: .ref a :: rest)) rfl (rest := rest) rfl (by rw [hb]; exact hdg) t
  simp only [arrV_size] at h1
  exact h1 st
theorem vx_fastZ {D : va_G} {cl : List vw_C} {ws : va_W} {tys : List (ClassId × FieldType)} {a : Nat} (hexec : p.tables.exec = Jvm.exec) (hb : c.code = cc) (hK : va_K D cl tys s) (hP : va_P D cl ws H) (q0 t0 : Nat) {cA : ClassId} {n : Nat} {f : Nat → UInt32} (ha : ws[q0]? = some (a, .inl (cA, n, .inr (.inr (.inl f))))) (ht : tys[t0]? = some (cA, .float)) {i : Int32} {x : UInt32} (hout : ¬ vp_in i n) (hdg : decode cc pc = .ok (.fastore, 1))
    (k : ∀ tx : String, tx = (toString "Index " ++ toString i ++ toString " out of bounds for length " ++ toString n : String) → vx_Note p l e R s m args below meth c H locs cells slots Q (F0 m pc ls rest) "java/lang/ArrayIndexOutOfBoundsException" tx) : W p l e R s m args below meth c H locs cells slots Q (F0 m pc ls (.float x :: .int i :: .ref a :: rest)) := by
  intro T hT X
  obtain ⟨t, st, q⟩ := k _ rfl T hT X
  refine ⟨t, ?_, q⟩
  have h1 := X.fastoreOut hexec (by rw [hT]; exact hP q0 _ ha) ((hK.2 t0 _ ht).1 n (fun j => .float (f j))) (j := i) (by show (i < 0 ∨ (arrV _ _ _).slots.size ≤ _); rw [arrV_size]; exact Classical.byContradiction hout) (g := F0 m pc ls (.float x :: .int i :: .ref a :: rest)) rfl (rest := rest) rfl (by rw [hb]; exact hdg) t
  simp only [arrV_size] at h1
  exact h1 st
theorem vx_daldZ {D : va_G} {cl : List vw_C} {ws : va_W} {tys : List (ClassId × FieldType)} {a : Nat} (hexec : p.tables.exec = Jvm.exec) (hb : c.code = cc) (hK : va_K D cl tys s) (hP : va_P D cl ws H) (q0 t0 : Nat) {cA : ClassId} {n : Nat} {f : Nat → UInt64} (ha : ws[q0]? = some (a, .inl (cA, n, .inr (.inr (.inr (.inl f)))))) (ht : tys[t0]? = some (cA, .double)) {i : Int32} (hout : ¬ vp_in i n) (hdg : decode cc pc = .ok (.daload, 1))
    (k : ∀ tx : String, tx = (toString "Index " ++ toString i ++ toString " out of bounds for length " ++ toString n : String) → vx_Note p l e R s m args below meth c H locs cells slots Q (F0 m pc ls rest) "java/lang/ArrayIndexOutOfBoundsException" tx) : W p l e R s m args below meth c H locs cells slots Q (F0 m pc ls (.int i :: .ref a :: rest)) := by
  intro T hT X
  obtain ⟨t, st, q⟩ := k _ rfl T hT X
  refine ⟨t, ?_, q⟩
  have h1 := X.daloadOut hexec (by rw [hT]; exact hP q0 _ ha) ((hK.2 t0 _ ht).1 n (fun j => .double (f j))) (j := i) (by show (i < 0 ∨ (arrV _ _ _).slots.size ≤ _); rw [arrV_size]; exact Classical.byContradiction hout) (g := F0 m pc ls (.int i :: .ref a :: rest)) rfl (rest := rest) rfl (by rw [hb]; exact hdg) t
  simp only [arrV_size] at h1
  exact h1 st
theorem vx_dastZ {D : va_G} {cl : List vw_C} {ws : va_W} {tys : List (ClassId × FieldType)} {a : Nat} (hexec : p.tables.exec = Jvm.exec) (hb : c.code = cc) (hK : va_K D cl tys s) (hP : va_P D cl ws H) (q0 t0 : Nat) {cA : ClassId} {n : Nat} {f : Nat → UInt64} (ha : ws[q0]? = some (a, .inl (cA, n, .inr (.inr (.inr (.inl f)))))) (ht : tys[t0]? = some (cA, .double)) {i : Int32} {x : UInt64} (hout : ¬ vp_in i n) (hdg : decode cc pc = .ok (.dastore, 1))
    (k : ∀ tx : String, tx = (toString "Index " ++ toString i ++ toString " out of bounds for length " ++ toString n : String) → vx_Note p l e R s m args below meth c H locs cells slots Q (F0 m pc ls rest) "java/lang/ArrayIndexOutOfBoundsException" tx) : W p l e R s m args below meth c H locs cells slots Q (F0 m pc ls (.double x :: .int i :: .ref a :: rest)) := by
  intro T hT X
  obtain ⟨t, st, q⟩ := k _ rfl T hT X
  refine ⟨t, ?_, q⟩
  have h1 := X.dastoreOut hexec (by rw [hT]; exact hP q0 _ ha) ((hK.2 t0 _ ht).1 n (fun j => .double (f j))) (j := i) (by show (i < 0 ∨ (arrV _ _ _).slots.size ≤ _); rw [arrV_size]; exact Classical.byContradiction hout) (g := F0 m pc ls (.double x :: .int i :: .ref a :: rest)) rfl (rest := rest) rfl (by rw [hb]; exact hdg) t
  simp only [arrV_size] at h1
  exact h1 st
theorem vx_arraylengthN (hexec : p.tables.exec = Jvm.exec) (hb : c.code = cc) (hdg : decode cc pc = .ok (.arraylength, 1)) (k : vx_NoteN p l e R s m args below meth c H locs cells slots Q (F0 m pc ls rest)) : W p l e R s m args below meth c H locs cells slots Q (F0 m pc ls (.null :: rest)) := by
  intro T hT X
  obtain ⟨t, st, q⟩ := k T hT X
  exact ⟨t, X.arraylengthNull hexec (g := F0 m pc ls (.null :: rest)) rfl (rest := rest) rfl (by rw [hb]; exact hdg) t st, q⟩
theorem vx_ialoadN (hexec : p.tables.exec = Jvm.exec) (hb : c.code = cc) {i : Int32} (hdg : decode cc pc = .ok (.iaload, 1)) (k : vx_NoteN p l e R s m args below meth c H locs cells slots Q (F0 m pc ls rest)) : W p l e R s m args below meth c H locs cells slots Q (F0 m pc ls (.int i :: .null :: rest)) := by
  intro T hT X
  obtain ⟨t, st, q⟩ := k T hT X
  exact ⟨t, X.ialoadNull hexec (g := F0 m pc ls (.int i :: .null :: rest)) rfl (rest := rest) rfl (by rw [hb]; exact hdg) t st, q⟩
theorem vx_laloadN (hexec : p.tables.exec = Jvm.exec) (hb : c.code = cc) {i : Int32} (hdg : decode cc pc = .ok (.laload, 1)) (k : vx_NoteN p l e R s m args below meth c H locs cells slots Q (F0 m pc ls rest)) : W p l e R s m args below meth c H locs cells slots Q (F0 m pc ls (.int i :: .null :: rest)) := by
  intro T hT X
  obtain ⟨t, st, q⟩ := k T hT X
  exact ⟨t, X.laloadNull hexec (g := F0 m pc ls (.int i :: .null :: rest)) rfl (rest := rest) rfl (by rw [hb]; exact hdg) t st, q⟩
theorem vx_faloadN (hexec : p.tables.exec = Jvm.exec) (hb : c.code = cc) {i : Int32} (hdg : decode cc pc = .ok (.faload, 1)) (k : vx_NoteN p l e R s m args below meth c H locs cells slots Q (F0 m pc ls rest)) : W p l e R s m args below meth c H locs cells slots Q (F0 m pc ls (.int i :: .null :: rest)) := by
  intro T hT X
  obtain ⟨t, st, q⟩ := k T hT X
  exact ⟨t, X.faloadNull hexec (g := F0 m pc ls (.int i :: .null :: rest)) rfl (rest := rest) rfl (by rw [hb]; exact hdg) t st, q⟩
theorem vx_daloadN (hexec : p.tables.exec = Jvm.exec) (hb : c.code = cc) {i : Int32} (hdg : decode cc pc = .ok (.daload, 1)) (k : vx_NoteN p l e R s m args below meth c H locs cells slots Q (F0 m pc ls rest)) : W p l e R s m args below meth c H locs cells slots Q (F0 m pc ls (.int i :: .null :: rest)) := by
  intro T hT X
  obtain ⟨t, st, q⟩ := k T hT X
  exact ⟨t, X.daloadNull hexec (g := F0 m pc ls (.int i :: .null :: rest)) rfl (rest := rest) rfl (by rw [hb]; exact hdg) t st, q⟩
theorem vx_aaloadN (hexec : p.tables.exec = Jvm.exec) (hb : c.code = cc) {i : Int32} (hdg : decode cc pc = .ok (.aaload, 1)) (k : vx_NoteN p l e R s m args below meth c H locs cells slots Q (F0 m pc ls rest)) : W p l e R s m args below meth c H locs cells slots Q (F0 m pc ls (.int i :: .null :: rest)) := by
  intro T hT X
  obtain ⟨t, st, q⟩ := k T hT X
  exact ⟨t, X.aaloadNull hexec (g := F0 m pc ls (.int i :: .null :: rest)) rfl (rest := rest) rfl (by rw [hb]; exact hdg) t st, q⟩
theorem vx_baloadN (hexec : p.tables.exec = Jvm.exec) (hb : c.code = cc) {i : Int32} (hdg : decode cc pc = .ok (.baload, 1)) (k : vx_NoteN p l e R s m args below meth c H locs cells slots Q (F0 m pc ls rest)) : W p l e R s m args below meth c H locs cells slots Q (F0 m pc ls (.int i :: .null :: rest)) := by
  intro T hT X
  obtain ⟨t, st, q⟩ := k T hT X
  exact ⟨t, X.baloadNull hexec (g := F0 m pc ls (.int i :: .null :: rest)) rfl (rest := rest) rfl (by rw [hb]; exact hdg) t st, q⟩
theorem vx_caloadN (hexec : p.tables.exec = Jvm.exec) (hb : c.code = cc) {i : Int32} (hdg : decode cc pc = .ok (.caload, 1)) (k : vx_NoteN p l e R s m args below meth c H locs cells slots Q (F0 m pc ls rest)) : W p l e R s m args below meth c H locs cells slots Q (F0 m pc ls (.int i :: .null :: rest)) := by
  intro T hT X
  obtain ⟨t, st, q⟩ := k T hT X
  exact ⟨t, X.caloadNull hexec (g := F0 m pc ls (.int i :: .null :: rest)) rfl (rest := rest) rfl (by rw [hb]; exact hdg) t st, q⟩
theorem vx_saloadN (hexec : p.tables.exec = Jvm.exec) (hb : c.code = cc) {i : Int32} (hdg : decode cc pc = .ok (.saload, 1)) (k : vx_NoteN p l e R s m args below meth c H locs cells slots Q (F0 m pc ls rest)) : W p l e R s m args below meth c H locs cells slots Q (F0 m pc ls (.int i :: .null :: rest)) := by
  intro T hT X
  obtain ⟨t, st, q⟩ := k T hT X
  exact ⟨t, X.saloadNull hexec (g := F0 m pc ls (.int i :: .null :: rest)) rfl (rest := rest) rfl (by rw [hb]; exact hdg) t st, q⟩
theorem vx_iastoreN (hexec : p.tables.exec = Jvm.exec) (hb : c.code = cc) {x : Int32} {i : Int32} (hdg : decode cc pc = .ok (.iastore, 1)) (k : vx_NoteN p l e R s m args below meth c H locs cells slots Q (F0 m pc ls rest)) : W p l e R s m args below meth c H locs cells slots Q (F0 m pc ls (.int x :: .int i :: .null :: rest)) := by
  intro T hT X
  obtain ⟨t, st, q⟩ := k T hT X
  exact ⟨t, X.iastoreNull hexec (g := F0 m pc ls (.int x :: .int i :: .null :: rest)) rfl (rest := rest) rfl (by rw [hb]; exact hdg) t st, q⟩
theorem vx_lastoreN (hexec : p.tables.exec = Jvm.exec) (hb : c.code = cc) {x : Int64} {i : Int32} (hdg : decode cc pc = .ok (.lastore, 1)) (k : vx_NoteN p l e R s m args below meth c H locs cells slots Q (F0 m pc ls rest)) : W p l e R s m args below meth c H locs cells slots Q (F0 m pc ls (.long x :: .int i :: .null :: rest)) := by
  intro T hT X
  obtain ⟨t, st, q⟩ := k T hT X
  exact ⟨t, X.lastoreNull hexec (g := F0 m pc ls (.long x :: .int i :: .null :: rest)) rfl (rest := rest) rfl (by rw [hb]; exact hdg) t st, q⟩
theorem vx_fastoreN (hexec : p.tables.exec = Jvm.exec) (hb : c.code = cc) {x : UInt32} {i : Int32} (hdg : decode cc pc = .ok (.fastore, 1)) (k : vx_NoteN p l e R s m args below meth c H locs cells slots Q (F0 m pc ls rest)) : W p l e R s m args below meth c H locs cells slots Q (F0 m pc ls (.float x :: .int i :: .null :: rest)) := by
  intro T hT X
  obtain ⟨t, st, q⟩ := k T hT X
  exact ⟨t, X.fastoreNull hexec (g := F0 m pc ls (.float x :: .int i :: .null :: rest)) rfl (rest := rest) rfl (by rw [hb]; exact hdg) t st, q⟩
theorem vx_dastoreN (hexec : p.tables.exec = Jvm.exec) (hb : c.code = cc) {x : UInt64} {i : Int32} (hdg : decode cc pc = .ok (.dastore, 1)) (k : vx_NoteN p l e R s m args below meth c H locs cells slots Q (F0 m pc ls rest)) : W p l e R s m args below meth c H locs cells slots Q (F0 m pc ls (.double x :: .int i :: .null :: rest)) := by
  intro T hT X
  obtain ⟨t, st, q⟩ := k T hT X
  exact ⟨t, X.dastoreNull hexec (g := F0 m pc ls (.double x :: .int i :: .null :: rest)) rfl (rest := rest) rfl (by rw [hb]; exact hdg) t st, q⟩
theorem vx_bastoreN (hexec : p.tables.exec = Jvm.exec) (hb : c.code = cc) {x : Int32} {i : Int32} (hdg : decode cc pc = .ok (.bastore, 1)) (k : vx_NoteN p l e R s m args below meth c H locs cells slots Q (F0 m pc ls rest)) : W p l e R s m args below meth c H locs cells slots Q (F0 m pc ls (.int x :: .int i :: .null :: rest)) := by
  intro T hT X
  obtain ⟨t, st, q⟩ := k T hT X
  exact ⟨t, X.bastoreNull hexec (g := F0 m pc ls (.int x :: .int i :: .null :: rest)) rfl (rest := rest) rfl (by rw [hb]; exact hdg) t st, q⟩
theorem vx_castoreN (hexec : p.tables.exec = Jvm.exec) (hb : c.code = cc) {x : Int32} {i : Int32} (hdg : decode cc pc = .ok (.castore, 1)) (k : vx_NoteN p l e R s m args below meth c H locs cells slots Q (F0 m pc ls rest)) : W p l e R s m args below meth c H locs cells slots Q (F0 m pc ls (.int x :: .int i :: .null :: rest)) := by
  intro T hT X
  obtain ⟨t, st, q⟩ := k T hT X
  exact ⟨t, X.castoreNull hexec (g := F0 m pc ls (.int x :: .int i :: .null :: rest)) rfl (rest := rest) rfl (by rw [hb]; exact hdg) t st, q⟩
theorem vx_sastoreN (hexec : p.tables.exec = Jvm.exec) (hb : c.code = cc) {x : Int32} {i : Int32} (hdg : decode cc pc = .ok (.sastore, 1)) (k : vx_NoteN p l e R s m args below meth c H locs cells slots Q (F0 m pc ls rest)) : W p l e R s m args below meth c H locs cells slots Q (F0 m pc ls (.int x :: .int i :: .null :: rest)) := by
  intro T hT X
  obtain ⟨t, st, q⟩ := k T hT X
  exact ⟨t, X.sastoreNull hexec (g := F0 m pc ls (.int x :: .int i :: .null :: rest)) rfl (rest := rest) rfl (by rw [hb]; exact hdg) t st, q⟩
theorem vx_invokeN {own C : String} {index maxL : Nat} {y : MethodName} {bytes : ByteArray} {ret : Option FieldType} (hexec : p.tables.exec = Jvm.exec) (hb : c.code = cc) (hown : s.vm.findClass own = some m.cls) (hlink : (Cond.methodLink own index y).before args s = true) (hinst : (Cond.instanceMethod y).before args s = true) (hcode : (Cond.code y bytes maxL ret).before args s = true) (hsel : (Cond.selects C y y).before args s = true)
    (hx : y.cls ≠ "java/lang/invoke/MethodHandle" ∧ y.cls ≠ "java/lang/invoke/VarHandle") {As : List Value} (hlen : (parseMethodDescriptor y.desc).map (fun d => d.parameters.length) = some As.length) (hdg : decode cc pc = .ok (.invokevirtual index, 3))
    (k : vx_NoteN p l e R s m args below meth c H locs cells slots Q (F0 m pc ls rest)) {st0 : List Value} (hst : st0 = As.reverse ++ .null :: rest) : W p l e R s m args below meth c H locs cells slots Q (F0 m pc ls st0) := by
  intro T hT X
  obtain ⟨r0, r, hn, hrm, hstR, hsigR⟩ := va_Decl.of hinst hcode
  obtain ⟨c2, r2, m2, q1, q2, q3, q4, kP, hkP, hkPi⟩ := Cond.selects_spec hsel
  cases hn.symm.trans q3
  have hl9 : As.length = r.sig.parameters.length := by
    rw [hsigR] at hlen
    exact (Option.some.inj hlen).symm
  obtain ⟨vm', X1, st1⟩ := X.invokevirtualNull hexec hown hlink hn hrm hstR hkP hkPi hx (g := F0 m pc ls st0) rfl (argsL := As) (rest := rest) hl9 hst (by rw [hb]; exact hdg)
  obtain ⟨t, st, q⟩ := k (T.setVm vm') hT X1
  exact ⟨t, st1 t st, q⟩
theorem vx_newarrayZ {atype : ArrayType} (hexec : p.tables.exec = Jvm.exec) (hb : c.code = cc) {n : Int32} (h0 : n < 0) (hdg : decode cc pc = .ok (.newarray atype, 2)) (k : ∀ tx : String, tx = toString n → vx_Note p l e R s m args below meth c H locs cells slots Q (F0 m pc ls rest) "java/lang/NegativeArraySizeException" tx) : W p l e R s m args below meth c H locs cells slots Q (F0 m pc ls (.int n :: rest)) := by
  intro T hT X
  obtain ⟨t, st, q⟩ := k _ rfl T hT X
  exact ⟨t, X.newarrayNegative hexec (g := F0 m pc ls (.int n :: rest)) rfl h0 (rest := rest) rfl (by rw [hb]; exact hdg) t st, q⟩
end
end VXM
/-! ===== END ===== -/
end
section
/-! ===== BEGIN printed: names, fields, word lists, decode rows ===== -/
def RX0 : String := "Dotpress$Embosser"
def TX0 : u_T := fun k => match k with
  | 0 => ("Dotpress$Embosser", "wear", "LDotpress$Row;", true)
  | 1 => ("Dotpress$Embosser", "plan", "LDotpress$Row;", true)
  | _ => ("Dotpress$Embosser", "bearing", "I", false)
def tyX0 : Nat → FieldType := fun k => match k with
  | 0 => .object "Dotpress$Row"
  | 1 => .object "Dotpress$Row"
  | _ => .int
abbrev wsX00 : List Cond := u_ws RX0 TX0 3
theorem nmX0 : ∀ a, a < 3 → ∀ b, b < 3 → a ≠ b → (TX0 a).2.1 ≠ (TX0 b).2.1 := by decide +kernel
theorem tyX0_ok : ∀ k, k < 3 → parseFieldDescriptor (TX0 k).2.2.1 = some (tyX0 k) := by decide +kernel
abbrev cX0_init : ByteArray := prog_2_method_1_code
def yX0_init : MethodName := ⟨RX0, "<init>", "()V"⟩
abbrev cX0_changeBearing : ByteArray := prog_2_method_2_code
def yX0_changeBearing : MethodName := ⟨RX0, "changeBearing", "(I)I"⟩
abbrev cX0_wearOf : ByteArray := prog_2_method_3_code
def yX0_wearOf : MethodName := ⟨RX0, "wearOf", "(I)I"⟩
abbrev cX0_renewPin : ByteArray := prog_2_method_4_code
def yX0_renewPin : MethodName := ⟨RX0, "renewPin", "(I)I"⟩
abbrev cX0_wearOfAll : ByteArray := prog_2_method_5_code
def yX0_wearOfAll : MethodName := ⟨RX0, "wearOfAll", "()I"⟩
abbrev cX0_forgetPlan : ByteArray := prog_2_method_6_code
def yX0_forgetPlan : MethodName := ⟨RX0, "forgetPlan", "()V"⟩
abbrev cX0_planCell : ByteArray := prog_2_method_7_code
def yX0_planCell : MethodName := ⟨RX0, "planCell", "(I)V"⟩
abbrev cX0_bearsPlan : ByteArray := prog_2_method_8_code
def yX0_bearsPlan : MethodName := ⟨RX0, "bearsPlan", "()Z"⟩
abbrev cX0_strikePlan : ByteArray := prog_2_method_9_code
def yX0_strikePlan : MethodName := ⟨RX0, "strikePlan", "()V"⟩
def RX1 : String := "Dotpress$Pieces"
def TX1 : u_T := fun k => match k with
  | 0 => ("Dotpress$Pieces", "numbers", "LDotpress$Row;", true)
  | _ => ("Dotpress$Pieces", "ends", "LDotpress$Row;", true)
def tyX1 : Nat → FieldType := fun k => match k with
  | 0 => .object "Dotpress$Row"
  | _ => .object "Dotpress$Row"
abbrev wsX10 : List Cond := u_ws RX1 TX1 2
theorem nmX1 : ∀ a, a < 2 → ∀ b, b < 2 → a ≠ b → (TX1 a).2.1 ≠ (TX1 b).2.1 := by decide +kernel
theorem tyX1_ok : ∀ k, k < 2 → parseFieldDescriptor (TX1 k).2.2.1 = some (tyX1 k) := by decide +kernel
abbrev cX1_init : ByteArray := prog_3_method_1_code
def yX1_init : MethodName := ⟨RX1, "<init>", "(II)V"⟩
abbrev cX1_uncut : ByteArray := prog_3_method_2_code
def yX1_uncut : MethodName := ⟨RX1, "uncut", "()LDotpress$Row;"⟩
abbrev cX1_count : ByteArray := prog_3_method_3_code
def yX1_count : MethodName := ⟨RX1, "count", "()I"⟩
abbrev cX1_startOf : ByteArray := prog_3_method_4_code
def yX1_startOf : MethodName := ⟨RX1, "startOf", "(I)I"⟩
abbrev cX1_endOf : ByteArray := prog_3_method_5_code
def yX1_endOf : MethodName := ⟨RX1, "endOf", "(I)I"⟩
abbrev cX1_sizeOf : ByteArray := prog_3_method_6_code
def yX1_sizeOf : MethodName := ⟨RX1, "sizeOf", "(I)I"⟩
abbrev cX1_get : ByteArray := prog_3_method_7_code
def yX1_get : MethodName := ⟨RX1, "get", "(II)I"⟩
abbrev cX1_uncutSize : ByteArray := prog_3_method_8_code
def yX1_uncutSize : MethodName := ⟨RX1, "uncutSize", "()I"⟩
abbrev cX1_add : ByteArray := prog_3_method_9_code
def yX1_add : MethodName := ⟨RX1, "add", "(I)V"⟩
abbrev cX1_cut : ByteArray := prog_3_method_10_code
def yX1_cut : MethodName := ⟨RX1, "cut", "()V"⟩
abbrev cX1_empty : ByteArray := prog_3_method_11_code
def yX1_empty : MethodName := ⟨RX1, "empty", "()V"⟩
abbrev cX1_drop : ByteArray := prog_3_method_12_code
def yX1_drop : MethodName := ⟨RX1, "drop", "(I)V"⟩
abbrev cX1_isSame : ByteArray := prog_3_method_13_code
def yX1_isSame : MethodName := ⟨RX1, "isSame", "(ILDotpress$Row;II)Z"⟩
abbrev cX1_shares : ByteArray := prog_3_method_14_code
def yX1_shares : MethodName := ⟨RX1, "shares", "(ILDotpress$Pieces;)Z"⟩
abbrev cX1_takeOver : ByteArray := prog_3_method_15_code
def yX1_takeOver : MethodName := ⟨RX1, "takeOver", "(LDotpress$Pieces;)V"⟩
def RX2 : String := "Dotpress$Row"
def TX2 : u_T := fun k => match k with
  | 0 => ("Dotpress$Row", "numbers", "[I", true)
  | _ => ("Dotpress$Row", "count", "I", false)
def tyX2 : Nat → FieldType := fun k => match k with
  | 0 => .array .int
  | _ => .int
abbrev wsX20 : List Cond := u_ws RX2 TX2 2
theorem nmX2 : ∀ a, a < 2 → ∀ b, b < 2 → a ≠ b → (TX2 a).2.1 ≠ (TX2 b).2.1 := by decide +kernel
theorem tyX2_ok : ∀ k, k < 2 → parseFieldDescriptor (TX2 k).2.2.1 = some (tyX2 k) := by decide +kernel
abbrev cX2_init : ByteArray := prog_4_method_1_code
def yX2_init : MethodName := ⟨RX2, "<init>", "(I)V"⟩
abbrev cX2_count : ByteArray := prog_4_method_2_code
def yX2_count : MethodName := ⟨RX2, "count", "()I"⟩
abbrev cX2_isFull : ByteArray := prog_4_method_3_code
def yX2_isFull : MethodName := ⟨RX2, "isFull", "()Z"⟩
abbrev cX2_get : ByteArray := prog_4_method_4_code
def yX2_get : MethodName := ⟨RX2, "get", "(I)I"⟩
abbrev cX2_set : ByteArray := prog_4_method_5_code
def yX2_set : MethodName := ⟨RX2, "set", "(II)V"⟩
abbrev cX2_add : ByteArray := prog_4_method_6_code
def yX2_add : MethodName := ⟨RX2, "add", "(I)V"⟩
abbrev cX2_insert : ByteArray := prog_4_method_7_code
def yX2_insert : MethodName := ⟨RX2, "insert", "(II)V"⟩
abbrev cX2_remove : ByteArray := prog_4_method_8_code
def yX2_remove : MethodName := ⟨RX2, "remove", "(I)V"⟩
abbrev cX2_empty : ByteArray := prog_4_method_9_code
def yX2_empty : MethodName := ⟨RX2, "empty", "()V"⟩
abbrev cX2_placeOf : ByteArray := prog_4_method_10_code
def yX2_placeOf : MethodName := ⟨RX2, "placeOf", "(I)I"⟩
abbrev cX2_takeOver : ByteArray := prog_4_method_11_code
def yX2_takeOver : MethodName := ⟨RX2, "takeOver", "(LDotpress$Row;)V"⟩
def RX3 : String := "Dotpress$RuleBook"
def TX3 : u_T := fun k => match k with
  | 0 => ("Dotpress$RuleBook", "keys", "LDotpress$Row;", true)
  | 1 => ("Dotpress$RuleBook", "grades", "LDotpress$Row;", true)
  | 2 => ("Dotpress$RuleBook", "firsts", "LDotpress$Row;", true)
  | 3 => ("Dotpress$RuleBook", "seconds", "LDotpress$Row;", true)
  | _ => ("Dotpress$RuleBook", "exceptions", "LDotpress$Pieces;", true)
def tyX3 : Nat → FieldType := fun k => match k with
  | 0 => .object "Dotpress$Row"
  | 1 => .object "Dotpress$Row"
  | 2 => .object "Dotpress$Row"
  | 3 => .object "Dotpress$Row"
  | _ => .object "Dotpress$Pieces"
abbrev wsX30 : List Cond := u_ws RX3 TX3 5
theorem nmX3 : ∀ a, a < 5 → ∀ b, b < 5 → a ≠ b → (TX3 a).2.1 ≠ (TX3 b).2.1 := by decide +kernel
theorem tyX3_ok : ∀ k, k < 5 → parseFieldDescriptor (TX3 k).2.2.1 = some (tyX3 k) := by decide +kernel
abbrev cX3_init : ByteArray := prog_5_method_1_code
def yX3_init : MethodName := ⟨RX3, "<init>", "()V"⟩
abbrev cX3_keyOf : ByteArray := prog_5_method_2_code
def yX3_keyOf : MethodName := ⟨RX3, "keyOf", "(LDotpress$Row;II)I"⟩
abbrev cX3_count : ByteArray := prog_5_method_3_code
def yX3_count : MethodName := ⟨RX3, "count", "()I"⟩
abbrev cX3_isFull : ByteArray := prog_5_method_4_code
def yX3_isFull : MethodName := ⟨RX3, "isFull", "()Z"⟩
abbrev cX3_hasPlace : ByteArray := prog_5_method_5_code
def yX3_hasPlace : MethodName := ⟨RX3, "hasPlace", "(I)Z"⟩
abbrev cX3_placeOf : ByteArray := prog_5_method_6_code
def yX3_placeOf : MethodName := ⟨RX3, "placeOf", "(I)I"⟩
abbrev cX3_insert : ByteArray := prog_5_method_7_code
def yX3_insert : MethodName := ⟨RX3, "insert", "(IIII)I"⟩
abbrev cX3_alter : ByteArray := prog_5_method_8_code
def yX3_alter : MethodName := ⟨RX3, "alter", "(IIII)V"⟩
abbrev cX3_takeAway : ByteArray := prog_5_method_9_code
def yX3_takeAway : MethodName := ⟨RX3, "takeAway", "(I)V"⟩
abbrev cX3_letterAt : ByteArray := prog_5_method_10_code
def yX3_letterAt : MethodName := ⟨RX3, "letterAt", "(II)I"⟩
abbrev cX3_isInOrder : ByteArray := prog_5_method_11_code
def yX3_isInOrder : MethodName := ⟨RX3, "isInOrder", "()Z"⟩
abbrev cX3_placeOfException : ByteArray := prog_5_method_12_code
def yX3_placeOfException : MethodName := ⟨RX3, "placeOfException", "(LDotpress$Row;II)I"⟩
abbrev cX3_isFullOfExceptions : ByteArray := prog_5_method_13_code
def yX3_isFullOfExceptions : MethodName := ⟨RX3, "isFullOfExceptions", "()Z"⟩
abbrev cX3_addException : ByteArray := prog_5_method_14_code
def yX3_addException : MethodName := ⟨RX3, "addException", "(LDotpress$Row;)V"⟩
abbrev cX3_dropException : ByteArray := prog_5_method_15_code
def yX3_dropException : MethodName := ⟨RX3, "dropException", "(I)V"⟩
abbrev cX3_translate : ByteArray := prog_5_method_16_code
def yX3_translate : MethodName := ⟨RX3, "translate", "(LDotpress$Row;IIILDotpress$Pieces;)V"⟩
abbrev cX3_addCells : ByteArray := prog_5_method_17_code
def yX3_addCells : MethodName := ⟨RX3, "addCells", "(LDotpress$Row;IIILDotpress$Pieces;)I"⟩
def RX4 : String := "Dotpress$Text"
def TX4 : u_T := fun k => match k with
  | 0 => ("Dotpress$Text", "typed", "LDotpress$Pieces;", true)
  | 1 => ("Dotpress$Text", "cells", "LDotpress$Pieces;", true)
  | 2 => ("Dotpress$Text", "marks", "LDotpress$Row;", true)
  | 3 => ("Dotpress$Text", "laid", "LDotpress$Pieces;", true)
  | 4 => ("Dotpress$Text", "firstLines", "LDotpress$Row;", true)
  | 5 => ("Dotpress$Text", "embossed", "LDotpress$Pieces;", true)
  | _ => ("Dotpress$Text", "grade", "I", false)
def tyX4 : Nat → FieldType := fun k => match k with
  | 0 => .object "Dotpress$Pieces"
  | 1 => .object "Dotpress$Pieces"
  | 2 => .object "Dotpress$Row"
  | 3 => .object "Dotpress$Pieces"
  | 4 => .object "Dotpress$Row"
  | 5 => .object "Dotpress$Pieces"
  | _ => .int
abbrev wsX40 : List Cond := u_ws RX4 TX4 7
theorem nmX4 : ∀ a, a < 7 → ∀ b, b < 7 → a ≠ b → (TX4 a).2.1 ≠ (TX4 b).2.1 := by decide +kernel
theorem tyX4_ok : ∀ k, k < 7 → parseFieldDescriptor (TX4 k).2.2.1 = some (tyX4 k) := by decide +kernel
abbrev cX4_init : ByteArray := prog_6_method_1_code
def yX4_init : MethodName := ⟨RX4, "<init>", "()V"⟩
abbrev cX4_take : ByteArray := prog_6_method_2_code
def yX4_take : MethodName := ⟨RX4, "take", "(LDotpress$Row;I)V"⟩
abbrev cX4_translate : ByteArray := prog_6_method_3_code
def yX4_translate : MethodName := ⟨RX4, "translate", "(LDotpress$RuleBook;LDotpress$Pieces;)Z"⟩
abbrev cX4_lay : ByteArray := prog_6_method_4_code
def yX4_lay : MethodName := ⟨RX4, "lay", "(I)V"⟩
abbrev cX4_beginWord : ByteArray := prog_6_method_5_code
def yX4_beginWord : MethodName := ⟨RX4, "beginWord", "(II)V"⟩
abbrev cX4_wordCount : ByteArray := prog_6_method_6_code
def yX4_wordCount : MethodName := ⟨RX4, "wordCount", "()I"⟩
abbrev cX4_cellCount : ByteArray := prog_6_method_7_code
def yX4_cellCount : MethodName := ⟨RX4, "cellCount", "(I)I"⟩
abbrev cX4_cellAt : ByteArray := prog_6_method_8_code
def yX4_cellAt : MethodName := ⟨RX4, "cellAt", "(II)I"⟩
abbrev cX4_lineCount : ByteArray := prog_6_method_9_code
def yX4_lineCount : MethodName := ⟨RX4, "lineCount", "()I"⟩
abbrev cX4_lineSize : ByteArray := prog_6_method_10_code
def yX4_lineSize : MethodName := ⟨RX4, "lineSize", "(I)I"⟩
abbrev cX4_laidCellAt : ByteArray := prog_6_method_11_code
def yX4_laidCellAt : MethodName := ⟨RX4, "laidCellAt", "(II)I"⟩
abbrev cX4_firstLineOf : ByteArray := prog_6_method_12_code
def yX4_firstLineOf : MethodName := ⟨RX4, "firstLineOf", "(I)I"⟩
abbrev cX4_isOther : ByteArray := prog_6_method_13_code
def yX4_isOther : MethodName := ⟨RX4, "isOther", "(I)Z"⟩
abbrev cX4_otherLineCount : ByteArray := prog_6_method_14_code
def yX4_otherLineCount : MethodName := ⟨RX4, "otherLineCount", "()I"⟩
abbrev cX4_keepAsEmbossed : ByteArray := prog_6_method_15_code
def yX4_keepAsEmbossed : MethodName := ⟨RX4, "keepAsEmbossed", "()V"⟩
abbrev cX4_putMark : ByteArray := prog_6_method_16_code
def yX4_putMark : MethodName := ⟨RX4, "putMark", "(IIC)V"⟩
abbrev cX4_markBy : ByteArray := prog_6_method_17_code
def yX4_markBy : MethodName := ⟨RX4, "markBy", "(II)C"⟩
abbrev cX4_unmark : ByteArray := prog_6_method_18_code
def yX4_unmark : MethodName := ⟨RX4, "unmark", "(I)V"⟩
abbrev cX4_provedCount : ByteArray := prog_6_method_19_code
def yX4_provedCount : MethodName := ⟨RX4, "provedCount", "()I"⟩
abbrev cX4_sumOnto : ByteArray := prog_6_method_20_code
def yX4_sumOnto : MethodName := ⟨RX4, "sumOnto", "(J)J"⟩
abbrev cX4_isWellLaid : ByteArray := prog_6_method_21_code
def yX4_isWellLaid : MethodName := ⟨RX4, "isWellLaid", "(I)Z"⟩
def RX5 : String := "Dotpress"
def TX5 : u_T := fun k => match k with
  | 0 => ("Dotpress", "buffer", "LDotpress$Row;", true)
  | 1 => ("Dotpress", "rules", "LDotpress$RuleBook;", true)
  | 2 => ("Dotpress", "embosser", "LDotpress$Embosser;", true)
  | 3 => ("Dotpress", "texts", "[LDotpress$Text;", true)
  | 4 => ("Dotpress", "freshCells", "LDotpress$Pieces;", true)
  | 5 => ("Dotpress", "textCount", "I", false)
  | _ => ("Dotpress", "width", "I", false)
def tyX5 : Nat → FieldType := fun k => match k with
  | 0 => .object "Dotpress$Row"
  | 1 => .object "Dotpress$RuleBook"
  | 2 => .object "Dotpress$Embosser"
  | 3 => .array (.object "Dotpress$Text")
  | 4 => .object "Dotpress$Pieces"
  | 5 => .int
  | _ => .int
abbrev wsX50 : List Cond := u_ws RX5 TX5 7
theorem nmX5 : ∀ a, a < 7 → ∀ b, b < 7 → a ≠ b → (TX5 a).2.1 ≠ (TX5 b).2.1 := by decide +kernel
theorem tyX5_ok : ∀ k, k < 7 → parseFieldDescriptor (TX5 k).2.2.1 = some (tyX5 k) := by decide +kernel
abbrev cX5_init : ByteArray := prog_1_method_1_code
def yX5_init : MethodName := ⟨RX5, "<init>", "()V"⟩
abbrev cX5_type : ByteArray := prog_1_method_2_code
def yX5_type : MethodName := ⟨RX5, "type", "(C)I"⟩
abbrev cX5_clear : ByteArray := prog_1_method_3_code
def yX5_clear : MethodName := ⟨RX5, "clear", "()I"⟩
abbrev cX5_addRule : ByteArray := prog_1_method_4_code
def yX5_addRule : MethodName := ⟨RX5, "addRule", "(III)I"⟩
abbrev cX5_mend : ByteArray := prog_1_method_5_code
def yX5_mend : MethodName := ⟨RX5, "mend", "(III)I"⟩
abbrev cX5_removeRule : ByteArray := prog_1_method_6_code
def yX5_removeRule : MethodName := ⟨RX5, "removeRule", "(I)I"⟩
abbrev cX5_ruleAt : ByteArray := prog_1_method_7_code
def yX5_ruleAt : MethodName := ⟨RX5, "ruleAt", "(II)C"⟩
abbrev cX5_turnException : ByteArray := prog_1_method_8_code
def yX5_turnException : MethodName := ⟨RX5, "turnException", "()Z"⟩
abbrev cX5_setText : ByteArray := prog_1_method_9_code
def yX5_setText : MethodName := ⟨RX5, "setText", "(II)I"⟩
abbrev cX5_setWidth : ByteArray := prog_1_method_10_code
def yX5_setWidth : MethodName := ⟨RX5, "setWidth", "(I)I"⟩
abbrev cX5_words : ByteArray := prog_1_method_11_code
def yX5_words : MethodName := ⟨RX5, "words", "(I)I"⟩
abbrev cX5_length : ByteArray := prog_1_method_12_code
def yX5_length : MethodName := ⟨RX5, "length", "(II)I"⟩
abbrev cX5_cellOf : ByteArray := prog_1_method_13_code
def yX5_cellOf : MethodName := ⟨RX5, "cellOf", "(III)I"⟩
abbrev cX5_lines : ByteArray := prog_1_method_14_code
def yX5_lines : MethodName := ⟨RX5, "lines", "(I)I"⟩
abbrev cX5_lineAt : ByteArray := prog_1_method_15_code
def yX5_lineAt : MethodName := ⟨RX5, "lineAt", "(III)I"⟩
abbrev cX5_lineOf : ByteArray := prog_1_method_16_code
def yX5_lineOf : MethodName := ⟨RX5, "lineOf", "(II)I"⟩
abbrev cX5_emboss : ByteArray := prog_1_method_17_code
def yX5_emboss : MethodName := ⟨RX5, "emboss", "(I)I"⟩
abbrev cX5_changed : ByteArray := prog_1_method_18_code
def yX5_changed : MethodName := ⟨RX5, "changed", "(I)I"⟩
abbrev cX5_setBearing : ByteArray := prog_1_method_19_code
def yX5_setBearing : MethodName := ⟨RX5, "setBearing", "(I)I"⟩
abbrev cX5_replace : ByteArray := prog_1_method_20_code
def yX5_replace : MethodName := ⟨RX5, "replace", "(I)I"⟩
abbrev cX5_strikes : ByteArray := prog_1_method_21_code
def yX5_strikes : MethodName := ⟨RX5, "strikes", "(I)I"⟩
abbrev cX5_mark : ByteArray := prog_1_method_22_code
def yX5_mark : MethodName := ⟨RX5, "mark", "(IIIZ)Z"⟩
abbrev cX5_markOf : ByteArray := prog_1_method_23_code
def yX5_markOf : MethodName := ⟨RX5, "markOf", "(III)C"⟩
abbrev cX5_checksum : ByteArray := prog_1_method_24_code
def yX5_checksum : MethodName := ⟨RX5, "checksum", "()J"⟩
abbrev cX5_provedShare : ByteArray := prog_1_method_25_code
def yX5_provedShare : MethodName := ⟨RX5, "provedShare", "()F"⟩
abbrev cX5_meanStrikes : ByteArray := prog_1_method_26_code
def yX5_meanStrikes : MethodName := ⟨RX5, "meanStrikes", "()D"⟩
abbrev cX5_isSound : ByteArray := prog_1_method_27_code
def yX5_isSound : MethodName := ⟨RX5, "isSound", "()Z"⟩
abbrev cX5_isGrade : ByteArray := prog_1_method_28_code
def yX5_isGrade : MethodName := ⟨RX5, "isGrade", "(I)Z"⟩
abbrev cX5_isRule : ByteArray := prog_1_method_29_code
def yX5_isRule : MethodName := ⟨RX5, "isRule", "(III)Z"⟩
abbrev cX5_isReader : ByteArray := prog_1_method_30_code
def yX5_isReader : MethodName := ⟨RX5, "isReader", "(I)Z"⟩
abbrev cX5_typedKey : ByteArray := prog_1_method_31_code
def yX5_typedKey : MethodName := ⟨RX5, "typedKey", "()I"⟩
abbrev cX5_textNumbered : ByteArray := prog_1_method_32_code
def yX5_textNumbered : MethodName := ⟨RX5, "textNumbered", "(I)LDotpress$Text;"⟩
abbrev cX5_textWithWord : ByteArray := prog_1_method_33_code
def yX5_textWithWord : MethodName := ⟨RX5, "textWithWord", "(II)LDotpress$Text;"⟩
abbrev cX5_translateTexts : ByteArray := prog_1_method_34_code
def yX5_translateTexts : MethodName := ⟨RX5, "translateTexts", "()I"⟩
abbrev cX5_planLine : ByteArray := prog_1_method_35_code
def yX5_planLine : MethodName := ⟨RX5, "planLine", "(LDotpress$Text;I)V"⟩
def RX6 : String := "DotpressModel"
def TX6 : u_T := fun k => match k with
  | 0 => ("DotpressModel", "thrown", "I", false)
  | 1 => ("DotpressModel", "buffer", "[I", true)
  | 2 => ("DotpressModel", "typed", "I", false)
  | 3 => ("DotpressModel", "letters", "[I", true)
  | 4 => ("DotpressModel", "grade", "[I", true)
  | 5 => ("DotpressModel", "first", "[I", true)
  | 6 => ("DotpressModel", "second", "[I", true)
  | 7 => ("DotpressModel", "rules", "I", false)
  | 8 => ("DotpressModel", "exception", "[I", true)
  | 9 => ("DotpressModel", "exceptionLength", "[I", true)
  | 10 => ("DotpressModel", "exceptions", "I", false)
  | 11 => ("DotpressModel", "text", "[I", true)
  | 12 => ("DotpressModel", "textLength", "[I", true)
  | 13 => ("DotpressModel", "textGrade", "[I", true)
  | 14 => ("DotpressModel", "texts", "I", false)
  | 15 => ("DotpressModel", "width", "I", false)
  | 16 => ("DotpressModel", "embossed", "[I", true)
  | 17 => ("DotpressModel", "embossedLength", "[I", true)
  | 18 => ("DotpressModel", "embossedLines", "[I", true)
  | 19 => ("DotpressModel", "marks", "[I", true)
  | 20 => ("DotpressModel", "bears", "I", false)
  | 21 => ("DotpressModel", "strikes", "[I", true)
  | 22 => ("DotpressModel", "word", "[I", true)
  | 23 => ("DotpressModel", "wordCells", "I", false)
  | 24 => ("DotpressModel", "before", "[I", true)
  | 25 => ("DotpressModel", "line", "[I", true)
  | 26 => ("DotpressModel", "lineLength", "[I", true)
  | _ => ("DotpressModel", "lines", "I", false)
def tyX6 : Nat → FieldType := fun k => match k with
  | 0 => .int
  | 1 => .array .int
  | 2 => .int
  | 3 => .array .int
  | 4 => .array .int
  | 5 => .array .int
  | 6 => .array .int
  | 7 => .int
  | 8 => .array .int
  | 9 => .array .int
  | 10 => .int
  | 11 => .array .int
  | 12 => .array .int
  | 13 => .array .int
  | 14 => .int
  | 15 => .int
  | 16 => .array .int
  | 17 => .array .int
  | 18 => .array .int
  | 19 => .array .int
  | 20 => .int
  | 21 => .array .int
  | 22 => .array .int
  | 23 => .int
  | 24 => .array .int
  | 25 => .array .int
  | 26 => .array .int
  | _ => .int
abbrev wsX60 : List Cond := u_ws RX6 TX6 28
theorem nmX6 : ∀ a, a < 28 → ∀ b, b < 28 → a ≠ b → (TX6 a).2.1 ≠ (TX6 b).2.1 := by decide +kernel
theorem tyX6_ok : ∀ k, k < 28 → parseFieldDescriptor (TX6 k).2.2.1 = some (tyX6 k) := by decide +kernel
abbrev cX6_init : ByteArray := prog_8_method_1_code
def yX6_init : MethodName := ⟨RX6, "<init>", "()V"⟩
abbrev cX6_thrown : ByteArray := prog_8_method_2_code
def yX6_thrown : MethodName := ⟨RX6, "thrown", "()I"⟩
abbrev cX6_in : ByteArray := prog_8_method_3_code
def yX6_in : MethodName := ⟨RX6, "in", "(III)Z"⟩
abbrev cX6_goesOn : ByteArray := prog_8_method_4_code
def yX6_goesOn : MethodName := ⟨RX6, "goesOn", "(I)Z"⟩
abbrev cX6_type : ByteArray := prog_8_method_5_code
def yX6_type : MethodName := ⟨RX6, "type", "(C)I"⟩
abbrev cX6_clear : ByteArray := prog_8_method_6_code
def yX6_clear : MethodName := ⟨RX6, "clear", "()I"⟩
abbrev cX6_hasBlank : ByteArray := prog_8_method_7_code
def yX6_hasBlank : MethodName := ⟨RX6, "hasBlank", "()Z"⟩
abbrev cX6_ruleLetters : ByteArray := prog_8_method_8_code
def yX6_ruleLetters : MethodName := ⟨RX6, "ruleLetters", "()I"⟩
abbrev cX6_power : ByteArray := prog_8_method_9_code
def yX6_power : MethodName := ⟨RX6, "power", "(I)I"⟩
abbrev cX6_letterOf : ByteArray := prog_8_method_10_code
def yX6_letterOf : MethodName := ⟨RX6, "letterOf", "(II)I"⟩
abbrev cX6_lengthOf : ByteArray := prog_8_method_11_code
def yX6_lengthOf : MethodName := ⟨RX6, "lengthOf", "(I)I"⟩
abbrev cX6_ruleOf : ByteArray := prog_8_method_12_code
def yX6_ruleOf : MethodName := ⟨RX6, "ruleOf", "(I)I"⟩
abbrev cX6_areFine : ByteArray := prog_8_method_13_code
def yX6_areFine : MethodName := ⟨RX6, "areFine", "(III)Z"⟩
abbrev cX6_moves : ByteArray := prog_8_method_14_code
def yX6_moves : MethodName := ⟨RX6, "moves", "(II)V"⟩
abbrev cX6_puts : ByteArray := prog_8_method_15_code
def yX6_puts : MethodName := ⟨RX6, "puts", "(IIIII)V"⟩
abbrev cX6_addRule : ByteArray := prog_8_method_16_code
def yX6_addRule : MethodName := ⟨RX6, "addRule", "(III)I"⟩
abbrev cX6_mend : ByteArray := prog_8_method_17_code
def yX6_mend : MethodName := ⟨RX6, "mend", "(III)I"⟩
abbrev cX6_removeRule : ByteArray := prog_8_method_18_code
def yX6_removeRule : MethodName := ⟨RX6, "removeRule", "(I)I"⟩
abbrev cX6_ruleAt : ByteArray := prog_8_method_19_code
def yX6_ruleAt : MethodName := ⟨RX6, "ruleAt", "(II)C"⟩
abbrev cX6_isThis : ByteArray := prog_8_method_20_code
def yX6_isThis : MethodName := ⟨RX6, "isThis", "(III)Z"⟩
abbrev cX6_isException : ByteArray := prog_8_method_21_code
def yX6_isException : MethodName := ⟨RX6, "isException", "(II)Z"⟩
abbrev cX6_exceptionInBuffer : ByteArray := prog_8_method_22_code
def yX6_exceptionInBuffer : MethodName := ⟨RX6, "exceptionInBuffer", "()I"⟩
abbrev cX6_turnException : ByteArray := prog_8_method_23_code
def yX6_turnException : MethodName := ⟨RX6, "turnException", "()Z"⟩
abbrev cX6_isBegin : ByteArray := prog_8_method_24_code
def yX6_isBegin : MethodName := ⟨RX6, "isBegin", "(II)Z"⟩
abbrev cX6_wordsOf : ByteArray := prog_8_method_25_code
def yX6_wordsOf : MethodName := ⟨RX6, "wordsOf", "(I)I"⟩
abbrev cX6_beginOf : ByteArray := prog_8_method_26_code
def yX6_beginOf : MethodName := ⟨RX6, "beginOf", "(II)I"⟩
abbrev cX6_letterCount : ByteArray := prog_8_method_27_code
def yX6_letterCount : MethodName := ⟨RX6, "letterCount", "(II)I"⟩
abbrev cX6_stands : ByteArray := prog_8_method_28_code
def yX6_stands : MethodName := ⟨RX6, "stands", "(III)Z"⟩
abbrev cX6_longest : ByteArray := prog_8_method_29_code
def yX6_longest : MethodName := ⟨RX6, "longest", "(IIII)I"⟩
abbrev cX6_translates : ByteArray := prog_8_method_30_code
def yX6_translates : MethodName := ⟨RX6, "translates", "(II)V"⟩
abbrev cX6_keepsCells : ByteArray := prog_8_method_31_code
def yX6_keepsCells : MethodName := ⟨RX6, "keepsCells", "()V"⟩
abbrev cX6_textsChanged : ByteArray := prog_8_method_32_code
def yX6_textsChanged : MethodName := ⟨RX6, "textsChanged", "()I"⟩
abbrev cX6_isText : ByteArray := prog_8_method_33_code
def yX6_isText : MethodName := ⟨RX6, "isText", "(I)Z"⟩
abbrev cX6_setText : ByteArray := prog_8_method_34_code
def yX6_setText : MethodName := ⟨RX6, "setText", "(II)I"⟩
abbrev cX6_setWidth : ByteArray := prog_8_method_35_code
def yX6_setWidth : MethodName := ⟨RX6, "setWidth", "(I)I"⟩
abbrev cX6_words : ByteArray := prog_8_method_36_code
def yX6_words : MethodName := ⟨RX6, "words", "(I)I"⟩
abbrev cX6_isWord : ByteArray := prog_8_method_37_code
def yX6_isWord : MethodName := ⟨RX6, "isWord", "(II)Z"⟩
abbrev cX6_length : ByteArray := prog_8_method_38_code
def yX6_length : MethodName := ⟨RX6, "length", "(II)I"⟩
abbrev cX6_cellOf : ByteArray := prog_8_method_39_code
def yX6_cellOf : MethodName := ⟨RX6, "cellOf", "(III)I"⟩
abbrev cX6_addsCell : ByteArray := prog_8_method_40_code
def yX6_addsCell : MethodName := ⟨RX6, "addsCell", "(I)V"⟩
abbrev cX6_begins : ByteArray := prog_8_method_41_code
def yX6_begins : MethodName := ⟨RX6, "begins", "()V"⟩
abbrev cX6_breaks : ByteArray := prog_8_method_42_code
def yX6_breaks : MethodName := ⟨RX6, "breaks", "(II)I"⟩
abbrev cX6_lines : ByteArray := prog_8_method_43_code
def yX6_lines : MethodName := ⟨RX6, "lines", "(I)I"⟩
abbrev cX6_lineAt : ByteArray := prog_8_method_44_code
def yX6_lineAt : MethodName := ⟨RX6, "lineAt", "(III)I"⟩
abbrev cX6_lineOf : ByteArray := prog_8_method_45_code
def yX6_lineOf : MethodName := ⟨RX6, "lineOf", "(II)I"⟩
abbrev cX6_isEmbossed : ByteArray := prog_8_method_46_code
def yX6_isEmbossed : MethodName := ⟨RX6, "isEmbossed", "(II)Z"⟩
abbrev cX6_due : ByteArray := prog_8_method_47_code
def yX6_due : MethodName := ⟨RX6, "due", "(II)I"⟩
abbrev cX6_isWorn : ByteArray := prog_8_method_48_code
def yX6_isWorn : MethodName := ⟨RX6, "isWorn", "(I)Z"⟩
abbrev cX6_emboss : ByteArray := prog_8_method_49_code
def yX6_emboss : MethodName := ⟨RX6, "emboss", "(I)I"⟩
abbrev cX6_changed : ByteArray := prog_8_method_50_code
def yX6_changed : MethodName := ⟨RX6, "changed", "(I)I"⟩
abbrev cX6_setBearing : ByteArray := prog_8_method_51_code
def yX6_setBearing : MethodName := ⟨RX6, "setBearing", "(I)I"⟩
abbrev cX6_replace : ByteArray := prog_8_method_52_code
def yX6_replace : MethodName := ⟨RX6, "replace", "(I)I"⟩
abbrev cX6_strikes : ByteArray := prog_8_method_53_code
def yX6_strikes : MethodName := ⟨RX6, "strikes", "(I)I"⟩
abbrev cX6_mark : ByteArray := prog_8_method_54_code
def yX6_mark : MethodName := ⟨RX6, "mark", "(IIIZ)Z"⟩
abbrev cX6_markOf : ByteArray := prog_8_method_55_code
def yX6_markOf : MethodName := ⟨RX6, "markOf", "(III)C"⟩
abbrev cX6_checksum : ByteArray := prog_8_method_56_code
def yX6_checksum : MethodName := ⟨RX6, "checksum", "()J"⟩
abbrev cX6_provedShare : ByteArray := prog_8_method_57_code
def yX6_provedShare : MethodName := ⟨RX6, "provedShare", "()F"⟩
abbrev cX6_meanStrikes : ByteArray := prog_8_method_58_code
def yX6_meanStrikes : MethodName := ⟨RX6, "meanStrikes", "()D"⟩
abbrev cX6_isSound : ByteArray := prog_8_method_59_code
def yX6_isSound : MethodName := ⟨RX6, "isSound", "()Z"⟩
def RJx145de : String := "java/io/Serializable"
def TJx145de : u_T := fun k => match k with
  | _ => ("", "", "", false)
def tyJx145de : Nat → FieldType := fun k => match k with
  | _ => .int
abbrev wsJx145de0 : List Cond := u_ws RJx145de TJx145de 0
theorem nmJx145de : ∀ a, a < 0 → ∀ b, b < 0 → a ≠ b → (TJx145de a).2.1 ≠ (TJx145de b).2.1 := by decide +kernel
theorem tyJx145de_ok : ∀ k, k < 0 → parseFieldDescriptor (TJx145de k).2.2.1 = some (tyJx145de k) := by decide +kernel
def RJx00060 : String := "java/lang/ArrayIndexOutOfBoundsException"
def TJx00060 : u_T := fun k => match k with
  | 0 => ("java/lang/Throwable", "backtrace", "Ljava/lang/Object;", false)
  | 1 => ("java/lang/Throwable", "detailMessage", "Ljava/lang/String;", false)
  | 2 => ("java/lang/Throwable", "cause", "Ljava/lang/Throwable;", false)
  | 3 => ("java/lang/Throwable", "stackTrace", "[Ljava/lang/StackTraceElement;", false)
  | 4 => ("java/lang/Throwable", "depth", "I", false)
  | _ => ("java/lang/Throwable", "suppressedExceptions", "Ljava/util/List;", false)
def tyJx00060 : Nat → FieldType := fun k => match k with
  | 0 => .object "java/lang/Object"
  | 1 => .object "java/lang/String"
  | 2 => .object "java/lang/Throwable"
  | 3 => .array (.object "java/lang/StackTraceElement")
  | 4 => .int
  | _ => .object "java/util/List"
abbrev wsJx000600 : List Cond := u_ws RJx00060 TJx00060 6
theorem nmJx00060 : ∀ a, a < 6 → ∀ b, b < 6 → a ≠ b → (TJx00060 a).2.1 ≠ (TJx00060 b).2.1 := by decide +kernel
theorem tyJx00060_ok : ∀ k, k < 6 → parseFieldDescriptor (TJx00060 k).2.2.1 = some (tyJx00060 k) := by decide +kernel
abbrev cJx00060_init_a7421 : ByteArray := prog_11_method_2_code
def yJx00060_init_a7421 : MethodName := ⟨RJx00060, "<init>", "(Ljava/lang/String;)V"⟩
def RJ9 : String := "java/lang/Math"
def TJ9 : u_T := fun k => match k with
  | _ => ("", "", "", false)
def tyJ9 : Nat → FieldType := fun k => match k with
  | _ => .int
abbrev wsJ90 : List Cond := u_ws RJ9 TJ9 0
theorem nmJ9 : ∀ a, a < 0 → ∀ b, b < 0 → a ≠ b → (TJ9 a).2.1 ≠ (TJ9 b).2.1 := by decide +kernel
theorem tyJ9_ok : ∀ k, k < 0 → parseFieldDescriptor (TJ9 k).2.2.1 = some (tyJ9 k) := by decide +kernel
abbrev cJ9_max_7cf53 : ByteArray := prog_16_method_65_code
def yJ9_max_7cf53 : MethodName := ⟨RJ9, "max", "(II)I"⟩
abbrev cJ9_min_7cf53 : ByteArray := prog_16_method_69_code
def yJ9_min_7cf53 : MethodName := ⟨RJ9, "min", "(II)I"⟩
def RJ0 : String := "java/lang/String"
def TJ0 : u_T := fun k => match k with
  | 0 => ("java/lang/String", "value", "[B", true)
  | _ => ("java/lang/String", "coder", "B", true)
def tyJ0 : Nat → FieldType := fun k => match k with
  | 0 => .array .byte
  | _ => .byte
abbrev wsJ00 : List Cond := u_ws RJ0 TJ0 2
theorem nmJ0 : ∀ a, a < 2 → ∀ b, b < 2 → a ≠ b → (TJ0 a).2.1 ≠ (TJ0 b).2.1 := by decide +kernel
theorem tyJ0_ok : ∀ k, k < 2 → parseFieldDescriptor (TJ0 k).2.2.1 = some (tyJ0 k) := by decide +kernel
def RJ10 : String := "java/lang/System"
def TJ10 : u_T := fun k => match k with
  | _ => ("", "", "", false)
def tyJ10 : Nat → FieldType := fun k => match k with
  | _ => .int
abbrev wsJ100 : List Cond := u_ws RJ10 TJ10 0
theorem nmJ10 : ∀ a, a < 0 → ∀ b, b < 0 → a ≠ b → (TJ10 a).2.1 ≠ (TJ10 b).2.1 := by decide +kernel
theorem tyJ10_ok : ∀ k, k < 0 → parseFieldDescriptor (TJ10 k).2.2.1 = some (tyJ10 k) := by decide +kernel
def RL : String := "DotpressLaw"
abbrev cL_type : ByteArray := method_3_code
def yL_type : MethodName := ⟨RL, "type", "(LDotpress;C[J)I"⟩
abbrev cL_addRule : ByteArray := method_4_code
def yL_addRule : MethodName := ⟨RL, "addRule", "(LDotpress;III[J)I"⟩
abbrev cL_mend : ByteArray := method_5_code
def yL_mend : MethodName := ⟨RL, "mend", "(LDotpress;III[J)I"⟩
abbrev cL_removeRule : ByteArray := method_6_code
def yL_removeRule : MethodName := ⟨RL, "removeRule", "(LDotpress;I[J)I"⟩
abbrev cL_ruleAt : ByteArray := method_7_code
def yL_ruleAt : MethodName := ⟨RL, "ruleAt", "(LDotpress;II[J)I"⟩
abbrev cL_turnException : ByteArray := method_8_code
def yL_turnException : MethodName := ⟨RL, "turnException", "(LDotpress;[J)I"⟩
abbrev cL_setText : ByteArray := method_9_code
def yL_setText : MethodName := ⟨RL, "setText", "(LDotpress;II[J)I"⟩
abbrev cL_setWidth : ByteArray := method_10_code
def yL_setWidth : MethodName := ⟨RL, "setWidth", "(LDotpress;I[J)I"⟩
abbrev cL_words : ByteArray := method_11_code
def yL_words : MethodName := ⟨RL, "words", "(LDotpress;I[J)I"⟩
abbrev cL_length : ByteArray := method_12_code
def yL_length : MethodName := ⟨RL, "length", "(LDotpress;II[J)I"⟩
abbrev cL_cellOf : ByteArray := method_13_code
def yL_cellOf : MethodName := ⟨RL, "cellOf", "(LDotpress;III[J)I"⟩
abbrev cL_lines : ByteArray := method_14_code
def yL_lines : MethodName := ⟨RL, "lines", "(LDotpress;I[J)I"⟩
abbrev cL_lineAt : ByteArray := method_15_code
def yL_lineAt : MethodName := ⟨RL, "lineAt", "(LDotpress;III[J)I"⟩
abbrev cL_lineOf : ByteArray := method_16_code
def yL_lineOf : MethodName := ⟨RL, "lineOf", "(LDotpress;II[J)I"⟩
abbrev cL_emboss : ByteArray := method_17_code
def yL_emboss : MethodName := ⟨RL, "emboss", "(LDotpress;I[J)I"⟩
abbrev cL_changed : ByteArray := method_18_code
def yL_changed : MethodName := ⟨RL, "changed", "(LDotpress;I[J)I"⟩
abbrev cL_setBearing : ByteArray := method_19_code
def yL_setBearing : MethodName := ⟨RL, "setBearing", "(LDotpress;I[J)I"⟩
abbrev cL_replace : ByteArray := method_20_code
def yL_replace : MethodName := ⟨RL, "replace", "(LDotpress;I[J)I"⟩
abbrev cL_strikes : ByteArray := method_21_code
def yL_strikes : MethodName := ⟨RL, "strikes", "(LDotpress;I[J)I"⟩
abbrev cL_mark : ByteArray := method_22_code
def yL_mark : MethodName := ⟨RL, "mark", "(LDotpress;IIIZ[J)I"⟩
abbrev cL_markOf : ByteArray := method_23_code
def yL_markOf : MethodName := ⟨RL, "markOf", "(LDotpress;III[J)I"⟩
abbrev cL_provedShare : ByteArray := method_24_code
def yL_provedShare : MethodName := ⟨RL, "provedShare", "(LDotpress;[D)I"⟩
abbrev cL_law : ByteArray := code
def yL_law : MethodName := ⟨RL, "law", "([I)Z"⟩

abbrev jCl : List vw_C := [(RX0, TX0, 3), (RX1, TX1, 2), (RX2, TX2, 2), (RX3, TX3, 5), (RX4, TX4, 7), (RX5, TX5, 7), (RX6, TX6, 28)]
end
section
/-! the words of the tables by their places (program: wip/gen/words.py) -/
def gT : List Cond := lw_tbl.filter goodWord
theorem gT_mem {i : Nat} {w : Cond} (h : lw_tbl[i]? = some w) (hg : goodWord w = true) : w ∈ gT := List.mem_filter.mpr ⟨List.mem_of_getElem? h, hg⟩
theorem gT_sub : ∀ w ∈ gT, w ∈ lw_tbl := fun _ h => (List.mem_filter.mp h).1
theorem gT_good : ∀ w ∈ gT, goodWord w = true := fun _ h => (List.mem_filter.mp h).2
theorem ini_L : Cond.initialized RL ∈ gT := gT_mem (i := 37) (by decide +kernel) (by decide +kernel)
theorem ini_X5 : Cond.initialized RX5 ∈ gT := gT_mem (i := 38) (by decide +kernel) (by decide +kernel)
theorem ini_X2 : Cond.initialized RX2 ∈ gT := gT_mem (i := 39) (by decide +kernel) (by decide +kernel)
theorem ini_X3 : Cond.initialized RX3 ∈ gT := gT_mem (i := 40) (by decide +kernel) (by decide +kernel)
theorem ini_X1 : Cond.initialized RX1 ∈ gT := gT_mem (i := 41) (by decide +kernel) (by decide +kernel)
theorem ini_X0 : Cond.initialized RX0 ∈ gT := gT_mem (i := 42) (by decide +kernel) (by decide +kernel)
theorem ini_X6 : Cond.initialized RX6 ∈ gT := gT_mem (i := 43) (by decide +kernel) (by decide +kernel)
theorem ini_Throwable : Cond.initialized "java/lang/Throwable" ∈ gT := gT_mem (i := 44) (by decide +kernel) (by decide +kernel)
theorem ini_Exception : Cond.initialized "java/lang/Exception" ∈ gT := gT_mem (i := 45) (by decide +kernel) (by decide +kernel)
theorem ini_RuntimeException : Cond.initialized "java/lang/RuntimeException" ∈ gT := gT_mem (i := 46) (by decide +kernel) (by decide +kernel)
theorem ini_IllegalArgumentException : Cond.initialized "java/lang/IllegalArgumentException" ∈ gT := gT_mem (i := 47) (by decide +kernel) (by decide +kernel)
theorem ini_IllegalStateException : Cond.initialized "java/lang/IllegalStateException" ∈ gT := gT_mem (i := 48) (by decide +kernel) (by decide +kernel)
theorem ini_UnsupportedOperationException : Cond.initialized "java/lang/UnsupportedOperationException" ∈ gT := gT_mem (i := 49) (by decide +kernel) (by decide +kernel)
theorem ini_J10 : Cond.initialized RJ10 ∈ gT := gT_mem (i := 50) (by decide +kernel) (by decide +kernel)
theorem ini_J9 : Cond.initialized RJ9 ∈ gT := gT_mem (i := 51) (by decide +kernel) (by decide +kernel)
theorem ini_NoSuchElementException : Cond.initialized "java/util/NoSuchElementException" ∈ gT := gT_mem (i := 52) (by decide +kernel) (by decide +kernel)
theorem ini_IndexOutOfBoundsException : Cond.initialized "java/lang/IndexOutOfBoundsException" ∈ gT := gT_mem (i := 53) (by decide +kernel) (by decide +kernel)
theorem ini_Jx00060 : Cond.initialized RJx00060 ∈ gT := gT_mem (i := 54) (by decide +kernel) (by decide +kernel)
theorem ini_J0 : Cond.initialized RJ0 ∈ gT := gT_mem (i := 55) (by decide +kernel) (by decide +kernel)
theorem ini_X4 : Cond.initialized RX4 ∈ gT := gT_mem (i := 56) (by decide +kernel) (by decide +kernel)
theorem ini_ArithmeticException : Cond.initialized "java/lang/ArithmeticException" ∈ gT := gT_mem (i := 57) (by decide +kernel) (by decide +kernel)
theorem cl_L_8 : Cond.classLink RL 8 RX5 ∈ gT := gT_mem (i := 58) (by decide +kernel) (by decide +kernel)
theorem ins_X5 : Cond.instantiable RX5 7 ∈ gT := gT_mem (i := 59) (by decide +kernel) (by decide +kernel)
theorem ml_L_96 : Cond.methodLink RL 96 yX5_init ∈ gT := gT_mem (i := 60) (by decide +kernel) (by decide +kernel)
theorem im_yX5_init : Cond.instanceMethod yX5_init ∈ gT := gT_mem (i := 61) (by decide +kernel) (by decide +kernel)
theorem cd_yX5_init : Cond.code yX5_init cX5_init 1 none ∈ gT := gT_mem (i := 62) (by decide +kernel) (by decide +kernel)
theorem ml_X5_3 : Cond.methodLink RX5 3 ⟨"java/lang/Object", "<init>", "()V"⟩ ∈ gT := gT_mem (i := 63) (by decide +kernel) (by decide +kernel)
theorem cl_X5_9 : Cond.classLink RX5 9 RX2 ∈ gT := gT_mem (i := 66) (by decide +kernel) (by decide +kernel)
theorem ins_X2 : Cond.instantiable RX2 2 ∈ gT := gT_mem (i := 67) (by decide +kernel) (by decide +kernel)
theorem ml_X5_11 : Cond.methodLink RX5 11 yX2_init ∈ gT := gT_mem (i := 68) (by decide +kernel) (by decide +kernel)
theorem im_yX2_init : Cond.instanceMethod yX2_init ∈ gT := gT_mem (i := 69) (by decide +kernel) (by decide +kernel)
theorem cd_yX2_init : Cond.code yX2_init cX2_init 2 none ∈ gT := gT_mem (i := 70) (by decide +kernel) (by decide +kernel)
theorem ml_X2_3 : Cond.methodLink RX2 3 ⟨"java/lang/Object", "<init>", "()V"⟩ ∈ gT := gT_mem (i := 71) (by decide +kernel) (by decide +kernel)
theorem fl_X2_15 : Cond.fieldLink RX2 15 "Dotpress$Row" "numbers" "[I" ∈ gT := gT_mem (i := 72) (by decide +kernel) (by decide +kernel)
theorem fl_X2_9 : Cond.fieldLink RX2 9 "Dotpress$Row" "count" "I" ∈ gT := gT_mem (i := 73) (by decide +kernel) (by decide +kernel)
theorem ac_int : Cond.arrayClass .int ∈ gT := gT_mem (i := 79) (by decide +kernel) (by decide +kernel)
theorem cl_X5_18 : Cond.classLink RX5 18 RX3 ∈ gT := gT_mem (i := 80) (by decide +kernel) (by decide +kernel)
theorem ins_X3 : Cond.instantiable RX3 5 ∈ gT := gT_mem (i := 81) (by decide +kernel) (by decide +kernel)
theorem mn_X5_20 : Cond.methodLinkNest RX5 20 yX3_init RX5 ∈ lw_tbl := List.mem_of_getElem? (i := 82) (by decide +kernel)
theorem im_yX3_init : Cond.instanceMethod yX3_init ∈ gT := gT_mem (i := 83) (by decide +kernel) (by decide +kernel)
theorem cd_yX3_init : Cond.code yX3_init cX3_init 1 none ∈ gT := gT_mem (i := 84) (by decide +kernel) (by decide +kernel)
theorem ml_X3_5 : Cond.methodLink RX3 5 ⟨"java/lang/Object", "<init>", "()V"⟩ ∈ gT := gT_mem (i := 85) (by decide +kernel) (by decide +kernel)
theorem cl_X3_11 : Cond.classLink RX3 11 RX2 ∈ gT := gT_mem (i := 86) (by decide +kernel) (by decide +kernel)
theorem ml_X3_13 : Cond.methodLink RX3 13 yX2_init ∈ gT := gT_mem (i := 87) (by decide +kernel) (by decide +kernel)
theorem cl_X3_29 : Cond.classLink RX3 29 RX1 ∈ gT := gT_mem (i := 88) (by decide +kernel) (by decide +kernel)
theorem ins_X1 : Cond.instantiable RX1 2 ∈ gT := gT_mem (i := 89) (by decide +kernel) (by decide +kernel)
theorem ml_X3_31 : Cond.methodLink RX3 31 yX1_init ∈ gT := gT_mem (i := 90) (by decide +kernel) (by decide +kernel)
theorem im_yX1_init : Cond.instanceMethod yX1_init ∈ gT := gT_mem (i := 91) (by decide +kernel) (by decide +kernel)
theorem cd_yX1_init : Cond.code yX1_init cX1_init 3 none ∈ gT := gT_mem (i := 92) (by decide +kernel) (by decide +kernel)
theorem ml_X1_1 : Cond.methodLink RX1 1 ⟨"java/lang/Object", "<init>", "()V"⟩ ∈ gT := gT_mem (i := 93) (by decide +kernel) (by decide +kernel)
theorem cl_X1_7 : Cond.classLink RX1 7 RX2 ∈ gT := gT_mem (i := 94) (by decide +kernel) (by decide +kernel)
theorem ml_X1_9 : Cond.methodLink RX1 9 yX2_init ∈ gT := gT_mem (i := 95) (by decide +kernel) (by decide +kernel)
theorem fl_X1_12 : Cond.fieldLink RX1 12 "Dotpress$Pieces" "numbers" "LDotpress$Row;" ∈ gT := gT_mem (i := 96) (by decide +kernel) (by decide +kernel)
theorem fl_X1_18 : Cond.fieldLink RX1 18 "Dotpress$Pieces" "ends" "LDotpress$Row;" ∈ gT := gT_mem (i := 97) (by decide +kernel) (by decide +kernel)
theorem fl_X3_16 : Cond.fieldLink RX3 16 "Dotpress$RuleBook" "keys" "LDotpress$Row;" ∈ gT := gT_mem (i := 103) (by decide +kernel) (by decide +kernel)
theorem fl_X3_20 : Cond.fieldLink RX3 20 "Dotpress$RuleBook" "grades" "LDotpress$Row;" ∈ gT := gT_mem (i := 104) (by decide +kernel) (by decide +kernel)
theorem fl_X3_23 : Cond.fieldLink RX3 23 "Dotpress$RuleBook" "firsts" "LDotpress$Row;" ∈ gT := gT_mem (i := 105) (by decide +kernel) (by decide +kernel)
theorem fl_X3_26 : Cond.fieldLink RX3 26 "Dotpress$RuleBook" "seconds" "LDotpress$Row;" ∈ gT := gT_mem (i := 106) (by decide +kernel) (by decide +kernel)
theorem fl_X3_34 : Cond.fieldLink RX3 34 "Dotpress$RuleBook" "exceptions" "LDotpress$Pieces;" ∈ gT := gT_mem (i := 107) (by decide +kernel) (by decide +kernel)
theorem cl_X5_25 : Cond.classLink RX5 25 RX0 ∈ gT := gT_mem (i := 119) (by decide +kernel) (by decide +kernel)
theorem ins_X0 : Cond.instantiable RX0 3 ∈ gT := gT_mem (i := 120) (by decide +kernel) (by decide +kernel)
theorem ml_X5_27 : Cond.methodLink RX5 27 yX0_init ∈ gT := gT_mem (i := 121) (by decide +kernel) (by decide +kernel)
theorem im_yX0_init : Cond.instanceMethod yX0_init ∈ gT := gT_mem (i := 122) (by decide +kernel) (by decide +kernel)
theorem cd_yX0_init : Cond.code yX0_init cX0_init 2 none ∈ gT := gT_mem (i := 123) (by decide +kernel) (by decide +kernel)
theorem ml_X0_3 : Cond.methodLink RX0 3 ⟨"java/lang/Object", "<init>", "()V"⟩ ∈ gT := gT_mem (i := 124) (by decide +kernel) (by decide +kernel)
theorem cl_X0_9 : Cond.classLink RX0 9 RX2 ∈ gT := gT_mem (i := 125) (by decide +kernel) (by decide +kernel)
theorem ml_X0_11 : Cond.methodLink RX0 11 yX2_init ∈ gT := gT_mem (i := 126) (by decide +kernel) (by decide +kernel)
theorem ml_X0_27 : Cond.methodLink RX0 27 yX2_add ∈ gT := gT_mem (i := 127) (by decide +kernel) (by decide +kernel)
theorem im_yX2_add : Cond.instanceMethod yX2_add ∈ gT := gT_mem (i := 128) (by decide +kernel) (by decide +kernel)
theorem se_yX2_add : Cond.selects RX2 yX2_add yX2_add ∈ gT := gT_mem (i := 129) (by decide +kernel) (by decide +kernel)
theorem cd_yX2_add : Cond.code yX2_add cX2_add 2 none ∈ gT := gT_mem (i := 130) (by decide +kernel) (by decide +kernel)
theorem fl_X0_14 : Cond.fieldLink RX0 14 "Dotpress$Embosser" "wear" "LDotpress$Row;" ∈ gT := gT_mem (i := 131) (by decide +kernel) (by decide +kernel)
theorem fl_X0_20 : Cond.fieldLink RX0 20 "Dotpress$Embosser" "plan" "LDotpress$Row;" ∈ gT := gT_mem (i := 132) (by decide +kernel) (by decide +kernel)
theorem fl_X0_23 : Cond.fieldLink RX0 23 "Dotpress$Embosser" "bearing" "I" ∈ gT := gT_mem (i := 133) (by decide +kernel) (by decide +kernel)
theorem cl_X5_32 : Cond.classLink RX5 32 RX4 ∈ gT := gT_mem (i := 141) (by decide +kernel) (by decide +kernel)
theorem ao_Text : Cond.arrayOver (.object RX4) ∈ lw_tbl := List.mem_of_getElem? (i := 142) (by decide +kernel)
theorem cl_X5_38 : Cond.classLink RX5 38 RX1 ∈ gT := gT_mem (i := 143) (by decide +kernel) (by decide +kernel)
theorem ml_X5_40 : Cond.methodLink RX5 40 yX1_init ∈ gT := gT_mem (i := 144) (by decide +kernel) (by decide +kernel)
theorem fl_X5_14 : Cond.fieldLink RX5 14 "Dotpress" "buffer" "LDotpress$Row;" ∈ gT := gT_mem (i := 145) (by decide +kernel) (by decide +kernel)
theorem fl_X5_21 : Cond.fieldLink RX5 21 "Dotpress" "rules" "LDotpress$RuleBook;" ∈ gT := gT_mem (i := 146) (by decide +kernel) (by decide +kernel)
theorem fl_X5_28 : Cond.fieldLink RX5 28 "Dotpress" "embosser" "LDotpress$Embosser;" ∈ gT := gT_mem (i := 147) (by decide +kernel) (by decide +kernel)
theorem fl_X5_34 : Cond.fieldLink RX5 34 "Dotpress" "texts" "[LDotpress$Text;" ∈ gT := gT_mem (i := 148) (by decide +kernel) (by decide +kernel)
theorem fl_X5_43 : Cond.fieldLink RX5 43 "Dotpress" "freshCells" "LDotpress$Pieces;" ∈ gT := gT_mem (i := 149) (by decide +kernel) (by decide +kernel)
theorem fl_X5_47 : Cond.fieldLink RX5 47 "Dotpress" "textCount" "I" ∈ gT := gT_mem (i := 150) (by decide +kernel) (by decide +kernel)
theorem fl_X5_51 : Cond.fieldLink RX5 51 "Dotpress" "width" "I" ∈ gT := gT_mem (i := 151) (by decide +kernel) (by decide +kernel)
theorem ml_L_110 : Cond.methodLink RL 110 yX5_clear ∈ gT := gT_mem (i := 167) (by decide +kernel) (by decide +kernel)
theorem im_yX5_clear : Cond.instanceMethod yX5_clear ∈ gT := gT_mem (i := 168) (by decide +kernel) (by decide +kernel)
theorem se_yX5_clear : Cond.selects RX5 yX5_clear yX5_clear ∈ gT := gT_mem (i := 169) (by decide +kernel) (by decide +kernel)
theorem cd_yX5_clear : Cond.code yX5_clear cX5_clear 2 (some FieldType.int) ∈ gT := gT_mem (i := 170) (by decide +kernel) (by decide +kernel)
theorem ml_X5_73 : Cond.methodLink RX5 73 yX2_count ∈ gT := gT_mem (i := 171) (by decide +kernel) (by decide +kernel)
theorem im_yX2_count : Cond.instanceMethod yX2_count ∈ gT := gT_mem (i := 172) (by decide +kernel) (by decide +kernel)
theorem se_yX2_count : Cond.selects RX2 yX2_count yX2_count ∈ gT := gT_mem (i := 173) (by decide +kernel) (by decide +kernel)
theorem cd_yX2_count : Cond.code yX2_count cX2_count 1 (some FieldType.int) ∈ gT := gT_mem (i := 174) (by decide +kernel) (by decide +kernel)
theorem ml_X5_77 : Cond.methodLink RX5 77 yX2_empty ∈ gT := gT_mem (i := 175) (by decide +kernel) (by decide +kernel)
theorem im_yX2_empty : Cond.instanceMethod yX2_empty ∈ gT := gT_mem (i := 176) (by decide +kernel) (by decide +kernel)
theorem se_yX2_empty : Cond.selects RX2 yX2_empty yX2_empty ∈ gT := gT_mem (i := 177) (by decide +kernel) (by decide +kernel)
theorem cd_yX2_empty : Cond.code yX2_empty cX2_empty 1 none ∈ gT := gT_mem (i := 178) (by decide +kernel) (by decide +kernel)
theorem ml_L_179 : Cond.methodLink RL 179 yX5_checksum ∈ gT := gT_mem (i := 179) (by decide +kernel) (by decide +kernel)
theorem im_yX5_checksum : Cond.instanceMethod yX5_checksum ∈ gT := gT_mem (i := 180) (by decide +kernel) (by decide +kernel)
theorem se_yX5_checksum : Cond.selects RX5 yX5_checksum yX5_checksum ∈ gT := gT_mem (i := 181) (by decide +kernel) (by decide +kernel)
theorem cd_yX5_checksum : Cond.code yX5_checksum cX5_checksum 7 (some FieldType.long) ∈ gT := gT_mem (i := 182) (by decide +kernel) (by decide +kernel)
theorem ml_X5_263 : Cond.methodLink RX5 263 yX4_sumOnto ∈ gT := gT_mem (i := 183) (by decide +kernel) (by decide +kernel)
theorem im_yX4_sumOnto : Cond.instanceMethod yX4_sumOnto ∈ gT := gT_mem (i := 184) (by decide +kernel) (by decide +kernel)
theorem se_yX4_sumOnto : Cond.selects RX4 yX4_sumOnto yX4_sumOnto ∈ gT := gT_mem (i := 185) (by decide +kernel) (by decide +kernel)
theorem cd_yX4_sumOnto : Cond.code yX4_sumOnto cX4_sumOnto 7 (some FieldType.long) ∈ gT := gT_mem (i := 186) (by decide +kernel) (by decide +kernel)
theorem ml_X4_65 : Cond.methodLink RX4 65 yX1_uncut ∈ gT := gT_mem (i := 187) (by decide +kernel) (by decide +kernel)
theorem im_yX1_uncut : Cond.instanceMethod yX1_uncut ∈ gT := gT_mem (i := 188) (by decide +kernel) (by decide +kernel)
theorem se_yX1_uncut : Cond.selects RX1 yX1_uncut yX1_uncut ∈ gT := gT_mem (i := 189) (by decide +kernel) (by decide +kernel)
theorem cd_yX1_uncut : Cond.code yX1_uncut cX1_uncut 1 (some (FieldType.object "Dotpress$Row")) ∈ gT := gT_mem (i := 190) (by decide +kernel) (by decide +kernel)
theorem ml_X4_48 : Cond.methodLink RX4 48 yX2_count ∈ gT := gT_mem (i := 191) (by decide +kernel) (by decide +kernel)
theorem kl_X4_124 : Cond.constantLong RX4 124 31 ∈ gT := gT_mem (i := 192) (by decide +kernel) (by decide +kernel)
theorem ml_X4_52 : Cond.methodLink RX4 52 yX2_get ∈ gT := gT_mem (i := 193) (by decide +kernel) (by decide +kernel)
theorem im_yX2_get : Cond.instanceMethod yX2_get ∈ gT := gT_mem (i := 194) (by decide +kernel) (by decide +kernel)
theorem se_yX2_get : Cond.selects RX2 yX2_get yX2_get ∈ gT := gT_mem (i := 195) (by decide +kernel) (by decide +kernel)
theorem cd_yX2_get : Cond.code yX2_get cX2_get 2 (some FieldType.int) ∈ gT := gT_mem (i := 196) (by decide +kernel) (by decide +kernel)
theorem ml_L_188 : Cond.methodLink RL 188 yX5_meanStrikes ∈ gT := gT_mem (i := 197) (by decide +kernel) (by decide +kernel)
theorem im_yX5_meanStrikes : Cond.instanceMethod yX5_meanStrikes ∈ gT := gT_mem (i := 198) (by decide +kernel) (by decide +kernel)
theorem se_yX5_meanStrikes : Cond.selects RX5 yX5_meanStrikes yX5_meanStrikes ∈ gT := gT_mem (i := 199) (by decide +kernel) (by decide +kernel)
theorem cd_yX5_meanStrikes : Cond.code yX5_meanStrikes cX5_meanStrikes 1 (some FieldType.double) ∈ gT := gT_mem (i := 200) (by decide +kernel) (by decide +kernel)
theorem ml_X5_275 : Cond.methodLink RX5 275 yX0_wearOfAll ∈ gT := gT_mem (i := 201) (by decide +kernel) (by decide +kernel)
theorem im_yX0_wearOfAll : Cond.instanceMethod yX0_wearOfAll ∈ gT := gT_mem (i := 202) (by decide +kernel) (by decide +kernel)
theorem se_yX0_wearOfAll : Cond.selects RX0 yX0_wearOfAll yX0_wearOfAll ∈ gT := gT_mem (i := 203) (by decide +kernel) (by decide +kernel)
theorem cd_yX0_wearOfAll : Cond.code yX0_wearOfAll cX0_wearOfAll 3 (some FieldType.int) ∈ gT := gT_mem (i := 204) (by decide +kernel) (by decide +kernel)
theorem ml_X0_30 : Cond.methodLink RX0 30 yX2_get ∈ gT := gT_mem (i := 205) (by decide +kernel) (by decide +kernel)
theorem kd_X5_278 : Cond.constantDouble RX5 278 4618441417868443648 ∈ gT := gT_mem (i := 206) (by decide +kernel) (by decide +kernel)
theorem ml_L_193 : Cond.methodLink RL 193 yX5_isSound ∈ gT := gT_mem (i := 207) (by decide +kernel) (by decide +kernel)
theorem im_yX5_isSound : Cond.instanceMethod yX5_isSound ∈ gT := gT_mem (i := 208) (by decide +kernel) (by decide +kernel)
theorem se_yX5_isSound : Cond.selects RX5 yX5_isSound yX5_isSound ∈ gT := gT_mem (i := 209) (by decide +kernel) (by decide +kernel)
theorem cd_yX5_isSound : Cond.code yX5_isSound cX5_isSound 5 (some FieldType.boolean) ∈ gT := gT_mem (i := 210) (by decide +kernel) (by decide +kernel)
theorem ml_X5_280 : Cond.methodLink RX5 280 yX4_isWellLaid ∈ gT := gT_mem (i := 211) (by decide +kernel) (by decide +kernel)
theorem im_yX4_isWellLaid : Cond.instanceMethod yX4_isWellLaid ∈ gT := gT_mem (i := 212) (by decide +kernel) (by decide +kernel)
theorem se_yX4_isWellLaid : Cond.selects RX4 yX4_isWellLaid yX4_isWellLaid ∈ gT := gT_mem (i := 213) (by decide +kernel) (by decide +kernel)
theorem cd_yX4_isWellLaid : Cond.code yX4_isWellLaid cX4_isWellLaid 5 (some FieldType.boolean) ∈ gT := gT_mem (i := 214) (by decide +kernel) (by decide +kernel)
theorem ml_X4_63 : Cond.methodLink RX4 63 yX1_count ∈ gT := gT_mem (i := 215) (by decide +kernel) (by decide +kernel)
theorem im_yX1_count : Cond.instanceMethod yX1_count ∈ gT := gT_mem (i := 216) (by decide +kernel) (by decide +kernel)
theorem se_yX1_count : Cond.selects RX1 yX1_count yX1_count ∈ gT := gT_mem (i := 217) (by decide +kernel) (by decide +kernel)
theorem cd_yX1_count : Cond.code yX1_count cX1_count 1 (some FieldType.int) ∈ gT := gT_mem (i := 218) (by decide +kernel) (by decide +kernel)
theorem ml_X1_21 : Cond.methodLink RX1 21 yX2_count ∈ gT := gT_mem (i := 219) (by decide +kernel) (by decide +kernel)
theorem ml_X4_92 : Cond.methodLink RX4 92 yX1_sizeOf ∈ gT := gT_mem (i := 220) (by decide +kernel) (by decide +kernel)
theorem im_yX1_sizeOf : Cond.instanceMethod yX1_sizeOf ∈ gT := gT_mem (i := 221) (by decide +kernel) (by decide +kernel)
theorem se_yX1_sizeOf : Cond.selects RX1 yX1_sizeOf yX1_sizeOf ∈ gT := gT_mem (i := 222) (by decide +kernel) (by decide +kernel)
theorem cd_yX1_sizeOf : Cond.code yX1_sizeOf cX1_sizeOf 2 (some FieldType.int) ∈ gT := gT_mem (i := 223) (by decide +kernel) (by decide +kernel)
theorem ml_X1_29 : Cond.methodLink RX1 29 yX1_endOf ∈ gT := gT_mem (i := 224) (by decide +kernel) (by decide +kernel)
theorem im_yX1_endOf : Cond.instanceMethod yX1_endOf ∈ gT := gT_mem (i := 225) (by decide +kernel) (by decide +kernel)
theorem se_yX1_endOf : Cond.selects RX1 yX1_endOf yX1_endOf ∈ gT := gT_mem (i := 226) (by decide +kernel) (by decide +kernel)
theorem cd_yX1_endOf : Cond.code yX1_endOf cX1_endOf 2 (some FieldType.int) ∈ gT := gT_mem (i := 227) (by decide +kernel) (by decide +kernel)
theorem ml_X1_25 : Cond.methodLink RX1 25 yX2_get ∈ gT := gT_mem (i := 228) (by decide +kernel) (by decide +kernel)
theorem ml_X1_32 : Cond.methodLink RX1 32 yX1_startOf ∈ gT := gT_mem (i := 229) (by decide +kernel) (by decide +kernel)
theorem im_yX1_startOf : Cond.instanceMethod yX1_startOf ∈ gT := gT_mem (i := 230) (by decide +kernel) (by decide +kernel)
theorem se_yX1_startOf : Cond.selects RX1 yX1_startOf yX1_startOf ∈ gT := gT_mem (i := 231) (by decide +kernel) (by decide +kernel)
theorem cd_yX1_startOf : Cond.code yX1_startOf cX1_startOf 2 (some FieldType.int) ∈ gT := gT_mem (i := 232) (by decide +kernel) (by decide +kernel)
theorem ml_X5_283 : Cond.methodLink RX5 283 yX3_isInOrder ∈ gT := gT_mem (i := 233) (by decide +kernel) (by decide +kernel)
theorem im_yX3_isInOrder : Cond.instanceMethod yX3_isInOrder ∈ gT := gT_mem (i := 234) (by decide +kernel) (by decide +kernel)
theorem se_yX3_isInOrder : Cond.selects RX3 yX3_isInOrder yX3_isInOrder ∈ gT := gT_mem (i := 235) (by decide +kernel) (by decide +kernel)
theorem cd_yX3_isInOrder : Cond.code yX3_isInOrder cX3_isInOrder 2 (some FieldType.boolean) ∈ gT := gT_mem (i := 236) (by decide +kernel) (by decide +kernel)
theorem ml_X3_42 : Cond.methodLink RX3 42 yX2_count ∈ gT := gT_mem (i := 237) (by decide +kernel) (by decide +kernel)
theorem ml_X3_38 : Cond.methodLink RX3 38 yX2_get ∈ gT := gT_mem (i := 238) (by decide +kernel) (by decide +kernel)
theorem ml_L_100 : Cond.methodLink RL 100 yL_type ∈ gT := gT_mem (i := 239) (by decide +kernel) (by decide +kernel)
theorem st_yL_type : Cond.static yL_type ∈ gT := gT_mem (i := 240) (by decide +kernel) (by decide +kernel)
theorem cw_yL_type : Cond.codeWith yL_type cL_type 4 (some FieldType.int) [(0, 9, 12, 13), (0, 9, 15, 15)] ∈ gT := gT_mem (i := 241) (by decide +kernel) (by decide +kernel)
theorem cl_L_13 : Cond.classLink RL 13 "java/lang/IllegalArgumentException" ∈ gT := gT_mem (i := 242) (by decide +kernel) (by decide +kernel)
theorem cl_L_15 : Cond.classLink RL 15 "java/lang/IllegalStateException" ∈ gT := gT_mem (i := 243) (by decide +kernel) (by decide +kernel)
theorem ml_L_7 : Cond.methodLink RL 7 yX5_type ∈ gT := gT_mem (i := 244) (by decide +kernel) (by decide +kernel)
theorem im_yX5_type : Cond.instanceMethod yX5_type ∈ gT := gT_mem (i := 245) (by decide +kernel) (by decide +kernel)
theorem se_yX5_type : Cond.selects RX5 yX5_type yX5_type ∈ gT := gT_mem (i := 246) (by decide +kernel) (by decide +kernel)
theorem cd_yX5_type : Cond.code yX5_type cX5_type 2 (some FieldType.int) ∈ gT := gT_mem (i := 247) (by decide +kernel) (by decide +kernel)
theorem cl_X5_54 : Cond.classLink RX5 54 "java/lang/IllegalArgumentException" ∈ gT := gT_mem (i := 248) (by decide +kernel) (by decide +kernel)
theorem ml_X5_58 : Cond.methodLink RX5 58 ⟨"java/lang/IllegalArgumentException", "<init>", "(Ljava/lang/String;)V"⟩ ∈ gT := gT_mem (i := 294) (by decide +kernel) (by decide +kernel)
theorem ac_byte : Cond.arrayClass .byte ∈ gT := gT_mem (i := 319) (by decide +kernel) (by decide +kernel)
theorem ml_X5_61 : Cond.methodLink RX5 61 yX2_isFull ∈ gT := gT_mem (i := 320) (by decide +kernel) (by decide +kernel)
theorem im_yX2_isFull : Cond.instanceMethod yX2_isFull ∈ gT := gT_mem (i := 321) (by decide +kernel) (by decide +kernel)
theorem se_yX2_isFull : Cond.selects RX2 yX2_isFull yX2_isFull ∈ gT := gT_mem (i := 322) (by decide +kernel) (by decide +kernel)
theorem cd_yX2_isFull : Cond.code yX2_isFull cX2_isFull 1 (some FieldType.boolean) ∈ gT := gT_mem (i := 323) (by decide +kernel) (by decide +kernel)
theorem cl_X5_65 : Cond.classLink RX5 65 "java/lang/IllegalStateException" ∈ gT := gT_mem (i := 324) (by decide +kernel) (by decide +kernel)
theorem ml_X5_69 : Cond.methodLink RX5 69 ⟨"java/lang/IllegalStateException", "<init>", "(Ljava/lang/String;)V"⟩ ∈ gT := gT_mem (i := 334) (by decide +kernel) (by decide +kernel)
theorem ml_X5_70 : Cond.methodLink RX5 70 yX2_add ∈ gT := gT_mem (i := 340) (by decide +kernel) (by decide +kernel)
theorem ml_L_114 : Cond.methodLink RL 114 yL_addRule ∈ gT := gT_mem (i := 341) (by decide +kernel) (by decide +kernel)
theorem st_yL_addRule : Cond.static yL_addRule ∈ gT := gT_mem (i := 342) (by decide +kernel) (by decide +kernel)
theorem cw_yL_addRule : Cond.codeWith yL_addRule cL_addRule 6 (some FieldType.int) [(0, 12, 15, 13), (0, 12, 19, 15), (0, 12, 23, 21)] ∈ gT := gT_mem (i := 343) (by decide +kernel) (by decide +kernel)
theorem cl_L_21 : Cond.classLink RL 21 "java/lang/UnsupportedOperationException" ∈ gT := gT_mem (i := 344) (by decide +kernel) (by decide +kernel)
theorem ml_L_17 : Cond.methodLink RL 17 yX5_addRule ∈ gT := gT_mem (i := 345) (by decide +kernel) (by decide +kernel)
theorem im_yX5_addRule : Cond.instanceMethod yX5_addRule ∈ gT := gT_mem (i := 346) (by decide +kernel) (by decide +kernel)
theorem se_yX5_addRule : Cond.selects RX5 yX5_addRule yX5_addRule ∈ gT := gT_mem (i := 347) (by decide +kernel) (by decide +kernel)
theorem cd_yX5_addRule : Cond.code yX5_addRule cX5_addRule 6 (some FieldType.int) ∈ gT := gT_mem (i := 348) (by decide +kernel) (by decide +kernel)
theorem ml_X5_80 : Cond.methodLink RX5 80 yX5_typedKey ∈ gT := gT_mem (i := 349) (by decide +kernel) (by decide +kernel)
theorem im_yX5_typedKey : Cond.instanceMethod yX5_typedKey ∈ gT := gT_mem (i := 351) (by decide +kernel) (by decide +kernel)
theorem cd_yX5_typedKey : Cond.code yX5_typedKey cX5_typedKey 1 (some FieldType.int) ∈ gT := gT_mem (i := 352) (by decide +kernel) (by decide +kernel)
theorem ml_X5_138 : Cond.methodLink RX5 138 yX2_placeOf ∈ gT := gT_mem (i := 353) (by decide +kernel) (by decide +kernel)
theorem im_yX2_placeOf : Cond.instanceMethod yX2_placeOf ∈ gT := gT_mem (i := 354) (by decide +kernel) (by decide +kernel)
theorem se_yX2_placeOf : Cond.selects RX2 yX2_placeOf yX2_placeOf ∈ gT := gT_mem (i := 355) (by decide +kernel) (by decide +kernel)
theorem cd_yX2_placeOf : Cond.code yX2_placeOf cX2_placeOf 3 (some FieldType.int) ∈ gT := gT_mem (i := 356) (by decide +kernel) (by decide +kernel)
theorem ml_X2_25 : Cond.methodLink RX2 25 yX2_get ∈ gT := gT_mem (i := 357) (by decide +kernel) (by decide +kernel)
theorem ml_X5_286 : Cond.methodLink RX5 286 yX3_keyOf ∈ gT := gT_mem (i := 358) (by decide +kernel) (by decide +kernel)
theorem st_yX3_keyOf : Cond.static yX3_keyOf ∈ gT := gT_mem (i := 359) (by decide +kernel) (by decide +kernel)
theorem cd_yX3_keyOf : Cond.code yX3_keyOf cX3_keyOf 6 (some FieldType.int) ∈ gT := gT_mem (i := 360) (by decide +kernel) (by decide +kernel)
theorem ml_X5_83 : Cond.methodLink RX5 83 yX5_isRule ∈ gT := gT_mem (i := 361) (by decide +kernel) (by decide +kernel)
theorem st_yX5_isRule : Cond.static yX5_isRule ∈ gT := gT_mem (i := 362) (by decide +kernel) (by decide +kernel)
theorem cd_yX5_isRule : Cond.code yX5_isRule cX5_isRule 3 (some FieldType.boolean) ∈ gT := gT_mem (i := 363) (by decide +kernel) (by decide +kernel)
theorem ml_X5_159 : Cond.methodLink RX5 159 yX5_isGrade ∈ gT := gT_mem (i := 364) (by decide +kernel) (by decide +kernel)
theorem st_yX5_isGrade : Cond.static yX5_isGrade ∈ gT := gT_mem (i := 365) (by decide +kernel) (by decide +kernel)
theorem cd_yX5_isGrade : Cond.code yX5_isGrade cX5_isGrade 1 (some FieldType.boolean) ∈ gT := gT_mem (i := 366) (by decide +kernel) (by decide +kernel)
theorem ml_X5_89 : Cond.methodLink RX5 89 yX3_isFull ∈ gT := gT_mem (i := 368) (by decide +kernel) (by decide +kernel)
theorem im_yX3_isFull : Cond.instanceMethod yX3_isFull ∈ gT := gT_mem (i := 369) (by decide +kernel) (by decide +kernel)
theorem se_yX3_isFull : Cond.selects RX3 yX3_isFull yX3_isFull ∈ gT := gT_mem (i := 370) (by decide +kernel) (by decide +kernel)
theorem cd_yX3_isFull : Cond.code yX3_isFull cX3_isFull 1 (some FieldType.boolean) ∈ gT := gT_mem (i := 371) (by decide +kernel) (by decide +kernel)
theorem ml_X3_46 : Cond.methodLink RX3 46 yX2_isFull ∈ gT := gT_mem (i := 372) (by decide +kernel) (by decide +kernel)
theorem ml_X5_92 : Cond.methodLink RX5 92 yX3_placeOf ∈ gT := gT_mem (i := 374) (by decide +kernel) (by decide +kernel)
theorem im_yX3_placeOf : Cond.instanceMethod yX3_placeOf ∈ gT := gT_mem (i := 375) (by decide +kernel) (by decide +kernel)
theorem se_yX3_placeOf : Cond.selects RX3 yX3_placeOf yX3_placeOf ∈ gT := gT_mem (i := 376) (by decide +kernel) (by decide +kernel)
theorem cd_yX3_placeOf : Cond.code yX3_placeOf cX3_placeOf 2 (some FieldType.int) ∈ gT := gT_mem (i := 377) (by decide +kernel) (by decide +kernel)
theorem ml_X3_50 : Cond.methodLink RX3 50 yX2_placeOf ∈ gT := gT_mem (i := 378) (by decide +kernel) (by decide +kernel)
theorem cl_X5_96 : Cond.classLink RX5 96 "java/lang/UnsupportedOperationException" ∈ gT := gT_mem (i := 379) (by decide +kernel) (by decide +kernel)
theorem ml_X5_100 : Cond.methodLink RX5 100 ⟨"java/lang/UnsupportedOperationException", "<init>", "(Ljava/lang/String;)V"⟩ ∈ gT := gT_mem (i := 389) (by decide +kernel) (by decide +kernel)
theorem ml_X5_101 : Cond.methodLink RX5 101 yX3_insert ∈ gT := gT_mem (i := 395) (by decide +kernel) (by decide +kernel)
theorem im_yX3_insert : Cond.instanceMethod yX3_insert ∈ gT := gT_mem (i := 396) (by decide +kernel) (by decide +kernel)
theorem se_yX3_insert : Cond.selects RX3 yX3_insert yX3_insert ∈ gT := gT_mem (i := 397) (by decide +kernel) (by decide +kernel)
theorem cd_yX3_insert : Cond.code yX3_insert cX3_insert 7 (some FieldType.int) ∈ gT := gT_mem (i := 398) (by decide +kernel) (by decide +kernel)
theorem ml_X3_53 : Cond.methodLink RX3 53 yX2_insert ∈ gT := gT_mem (i := 399) (by decide +kernel) (by decide +kernel)
theorem im_yX2_insert : Cond.instanceMethod yX2_insert ∈ gT := gT_mem (i := 400) (by decide +kernel) (by decide +kernel)
theorem se_yX2_insert : Cond.selects RX2 yX2_insert yX2_insert ∈ gT := gT_mem (i := 401) (by decide +kernel) (by decide +kernel)
theorem cd_yX2_insert : Cond.code yX2_insert cX2_insert 3 none ∈ gT := gT_mem (i := 402) (by decide +kernel) (by decide +kernel)
theorem ml_X2_19 : Cond.methodLink RX2 19 ⟨"java/lang/System", "arraycopy", "(Ljava/lang/Object;ILjava/lang/Object;II)V"⟩ ∈ gT := gT_mem (i := 403) (by decide +kernel) (by decide +kernel)
theorem nat_copy : Cond.native ⟨"java/lang/System", "arraycopy", "(Ljava/lang/Object;ILjava/lang/Object;II)V"⟩ ∈ gT := gT_mem (i := 405) (by decide +kernel) (by decide +kernel)
theorem ml_X5_105 : Cond.methodLink RX5 105 yX5_translateTexts ∈ gT := gT_mem (i := 406) (by decide +kernel) (by decide +kernel)
theorem im_yX5_translateTexts : Cond.instanceMethod yX5_translateTexts ∈ gT := gT_mem (i := 408) (by decide +kernel) (by decide +kernel)
theorem cd_yX5_translateTexts : Cond.code yX5_translateTexts cX5_translateTexts 6 (some FieldType.int) ∈ gT := gT_mem (i := 409) (by decide +kernel) (by decide +kernel)
theorem ml_X5_169 : Cond.methodLink RX5 169 yX4_translate ∈ gT := gT_mem (i := 410) (by decide +kernel) (by decide +kernel)
theorem im_yX4_translate : Cond.instanceMethod yX4_translate ∈ gT := gT_mem (i := 411) (by decide +kernel) (by decide +kernel)
theorem se_yX4_translate : Cond.selects RX4 yX4_translate yX4_translate ∈ gT := gT_mem (i := 412) (by decide +kernel) (by decide +kernel)
theorem cd_yX4_translate : Cond.code yX4_translate cX4_translate 5 (some FieldType.boolean) ∈ gT := gT_mem (i := 413) (by decide +kernel) (by decide +kernel)
theorem ml_X4_45 : Cond.methodLink RX4 45 yX1_empty ∈ gT := gT_mem (i := 414) (by decide +kernel) (by decide +kernel)
theorem im_yX1_empty : Cond.instanceMethod yX1_empty ∈ gT := gT_mem (i := 415) (by decide +kernel) (by decide +kernel)
theorem se_yX1_empty : Cond.selects RX1 yX1_empty yX1_empty ∈ gT := gT_mem (i := 416) (by decide +kernel) (by decide +kernel)
theorem cd_yX1_empty : Cond.code yX1_empty cX1_empty 1 none ∈ gT := gT_mem (i := 417) (by decide +kernel) (by decide +kernel)
theorem ml_X1_42 : Cond.methodLink RX1 42 yX2_empty ∈ gT := gT_mem (i := 418) (by decide +kernel) (by decide +kernel)
theorem ml_X4_69 : Cond.methodLink RX4 69 yX1_startOf ∈ gT := gT_mem (i := 419) (by decide +kernel) (by decide +kernel)
theorem ml_X4_72 : Cond.methodLink RX4 72 yX1_endOf ∈ gT := gT_mem (i := 420) (by decide +kernel) (by decide +kernel)
theorem ml_X4_75 : Cond.methodLink RX4 75 yX3_translate ∈ gT := gT_mem (i := 421) (by decide +kernel) (by decide +kernel)
theorem im_yX3_translate : Cond.instanceMethod yX3_translate ∈ gT := gT_mem (i := 422) (by decide +kernel) (by decide +kernel)
theorem se_yX3_translate : Cond.selects RX3 yX3_translate yX3_translate ∈ gT := gT_mem (i := 423) (by decide +kernel) (by decide +kernel)
theorem cd_yX3_translate : Cond.code yX3_translate cX3_translate 11 none ∈ gT := gT_mem (i := 424) (by decide +kernel) (by decide +kernel)
theorem ml_X3_76 : Cond.methodLink RX3 76 yX3_placeOfException ∈ gT := gT_mem (i := 425) (by decide +kernel) (by decide +kernel)
theorem im_yX3_placeOfException : Cond.instanceMethod yX3_placeOfException ∈ gT := gT_mem (i := 426) (by decide +kernel) (by decide +kernel)
theorem se_yX3_placeOfException : Cond.selects RX3 yX3_placeOfException yX3_placeOfException ∈ gT := gT_mem (i := 427) (by decide +kernel) (by decide +kernel)
theorem cd_yX3_placeOfException : Cond.code yX3_placeOfException cX3_placeOfException 5 (some FieldType.int) ∈ gT := gT_mem (i := 428) (by decide +kernel) (by decide +kernel)
theorem ml_X3_62 : Cond.methodLink RX3 62 yX1_count ∈ gT := gT_mem (i := 429) (by decide +kernel) (by decide +kernel)
theorem ml_X3_63 : Cond.methodLink RX3 63 yX1_isSame ∈ gT := gT_mem (i := 430) (by decide +kernel) (by decide +kernel)
theorem im_yX1_isSame : Cond.instanceMethod yX1_isSame ∈ gT := gT_mem (i := 431) (by decide +kernel) (by decide +kernel)
theorem se_yX1_isSame : Cond.selects RX1 yX1_isSame yX1_isSame ∈ gT := gT_mem (i := 432) (by decide +kernel) (by decide +kernel)
theorem cd_yX1_isSame : Cond.code yX1_isSame cX1_isSame 7 (some FieldType.boolean) ∈ gT := gT_mem (i := 433) (by decide +kernel) (by decide +kernel)
theorem ml_X3_80 : Cond.methodLink RX3 80 yJ9_min_7cf53 ∈ gT := gT_mem (i := 434) (by decide +kernel) (by decide +kernel)
theorem st_yJ9_min_7cf53 : Cond.static yJ9_min_7cf53 ∈ gT := gT_mem (i := 435) (by decide +kernel) (by decide +kernel)
theorem cd_yJ9_min_7cf53 : Cond.code yJ9_min_7cf53 cJ9_min_7cf53 2 (some FieldType.int) ∈ gT := gT_mem (i := 436) (by decide +kernel) (by decide +kernel)
theorem ml_X3_86 : Cond.methodLink RX3 86 yX3_addCells ∈ gT := gT_mem (i := 437) (by decide +kernel) (by decide +kernel)
theorem im_yX3_addCells : Cond.instanceMethod yX3_addCells ∈ gT := gT_mem (i := 439) (by decide +kernel) (by decide +kernel)
theorem cd_yX3_addCells : Cond.code yX3_addCells cX3_addCells 8 (some FieldType.int) ∈ gT := gT_mem (i := 440) (by decide +kernel) (by decide +kernel)
theorem ml_X3_90 : Cond.methodLink RX3 90 yX3_keyOf ∈ gT := gT_mem (i := 441) (by decide +kernel) (by decide +kernel)
theorem ml_X3_67 : Cond.methodLink RX3 67 yX1_add ∈ gT := gT_mem (i := 442) (by decide +kernel) (by decide +kernel)
theorem im_yX1_add : Cond.instanceMethod yX1_add ∈ gT := gT_mem (i := 443) (by decide +kernel) (by decide +kernel)
theorem se_yX1_add : Cond.selects RX1 yX1_add yX1_add ∈ gT := gT_mem (i := 444) (by decide +kernel) (by decide +kernel)
theorem cd_yX1_add : Cond.code yX1_add cX1_add 2 none ∈ gT := gT_mem (i := 445) (by decide +kernel) (by decide +kernel)
theorem ml_X1_36 : Cond.methodLink RX1 36 yX2_add ∈ gT := gT_mem (i := 446) (by decide +kernel) (by decide +kernel)
theorem ml_X4_56 : Cond.methodLink RX4 56 yX1_cut ∈ gT := gT_mem (i := 447) (by decide +kernel) (by decide +kernel)
theorem im_yX1_cut : Cond.instanceMethod yX1_cut ∈ gT := gT_mem (i := 448) (by decide +kernel) (by decide +kernel)
theorem se_yX1_cut : Cond.selects RX1 yX1_cut yX1_cut ∈ gT := gT_mem (i := 449) (by decide +kernel) (by decide +kernel)
theorem cd_yX1_cut : Cond.code yX1_cut cX1_cut 1 none ∈ gT := gT_mem (i := 450) (by decide +kernel) (by decide +kernel)
theorem ml_X1_39 : Cond.methodLink RX1 39 yX1_uncutSize ∈ gT := gT_mem (i := 451) (by decide +kernel) (by decide +kernel)
theorem im_yX1_uncutSize : Cond.instanceMethod yX1_uncutSize ∈ gT := gT_mem (i := 452) (by decide +kernel) (by decide +kernel)
theorem se_yX1_uncutSize : Cond.selects RX1 yX1_uncutSize yX1_uncutSize ∈ gT := gT_mem (i := 453) (by decide +kernel) (by decide +kernel)
theorem cd_yX1_uncutSize : Cond.code yX1_uncutSize cX1_uncutSize 1 (some FieldType.int) ∈ gT := gT_mem (i := 454) (by decide +kernel) (by decide +kernel)
theorem ml_X1_35 : Cond.methodLink RX1 35 yX1_count ∈ gT := gT_mem (i := 455) (by decide +kernel) (by decide +kernel)
theorem ml_X4_81 : Cond.methodLink RX4 81 yX1_shares ∈ gT := gT_mem (i := 456) (by decide +kernel) (by decide +kernel)
theorem im_yX1_shares : Cond.instanceMethod yX1_shares ∈ gT := gT_mem (i := 457) (by decide +kernel) (by decide +kernel)
theorem se_yX1_shares : Cond.selects RX1 yX1_shares yX1_shares ∈ gT := gT_mem (i := 458) (by decide +kernel) (by decide +kernel)
theorem cd_yX1_shares : Cond.code yX1_shares cX1_shares 3 (some FieldType.boolean) ∈ gT := gT_mem (i := 459) (by decide +kernel) (by decide +kernel)
theorem ml_X1_55 : Cond.methodLink RX1 55 yX1_isSame ∈ gT := gT_mem (i := 460) (by decide +kernel) (by decide +kernel)
theorem ml_X4_85 : Cond.methodLink RX4 85 yX4_unmark ∈ gT := gT_mem (i := 461) (by decide +kernel) (by decide +kernel)
theorem im_yX4_unmark : Cond.instanceMethod yX4_unmark ∈ gT := gT_mem (i := 463) (by decide +kernel) (by decide +kernel)
theorem ins_X4 : Cond.instantiable RX4 7 ∈ gT := gT_mem (i := 464) (by decide +kernel) (by decide +kernel)
theorem cd_yX4_unmark : Cond.code yX4_unmark cX4_unmark 3 none ∈ gT := gT_mem (i := 465) (by decide +kernel) (by decide +kernel)
theorem ml_X4_116 : Cond.methodLink RX4 116 yX4_putMark ∈ gT := gT_mem (i := 466) (by decide +kernel) (by decide +kernel)
theorem im_yX4_putMark : Cond.instanceMethod yX4_putMark ∈ gT := gT_mem (i := 467) (by decide +kernel) (by decide +kernel)
theorem se_yX4_putMark : Cond.selects RX4 yX4_putMark yX4_putMark ∈ gT := gT_mem (i := 468) (by decide +kernel) (by decide +kernel)
theorem cd_yX4_putMark : Cond.code yX4_putMark cX4_putMark 4 none ∈ gT := gT_mem (i := 469) (by decide +kernel) (by decide +kernel)
theorem ml_X4_113 : Cond.methodLink RX4 113 yX2_set ∈ gT := gT_mem (i := 470) (by decide +kernel) (by decide +kernel)
theorem im_yX2_set : Cond.instanceMethod yX2_set ∈ gT := gT_mem (i := 471) (by decide +kernel) (by decide +kernel)
theorem se_yX2_set : Cond.selects RX2 yX2_set yX2_set ∈ gT := gT_mem (i := 472) (by decide +kernel) (by decide +kernel)
theorem cd_yX2_set : Cond.code yX2_set cX2_set 3 none ∈ gT := gT_mem (i := 473) (by decide +kernel) (by decide +kernel)
theorem ml_X4_88 : Cond.methodLink RX4 88 yX1_takeOver ∈ gT := gT_mem (i := 474) (by decide +kernel) (by decide +kernel)
theorem im_yX1_takeOver : Cond.instanceMethod yX1_takeOver ∈ gT := gT_mem (i := 475) (by decide +kernel) (by decide +kernel)
theorem se_yX1_takeOver : Cond.selects RX1 yX1_takeOver yX1_takeOver ∈ gT := gT_mem (i := 476) (by decide +kernel) (by decide +kernel)
theorem cd_yX1_takeOver : Cond.code yX1_takeOver cX1_takeOver 2 none ∈ gT := gT_mem (i := 477) (by decide +kernel) (by decide +kernel)
theorem ml_X1_59 : Cond.methodLink RX1 59 yX2_takeOver ∈ gT := gT_mem (i := 478) (by decide +kernel) (by decide +kernel)
theorem im_yX2_takeOver : Cond.instanceMethod yX2_takeOver ∈ gT := gT_mem (i := 479) (by decide +kernel) (by decide +kernel)
theorem se_yX2_takeOver : Cond.selects RX2 yX2_takeOver yX2_takeOver ∈ gT := gT_mem (i := 480) (by decide +kernel) (by decide +kernel)
theorem cd_yX2_takeOver : Cond.code yX2_takeOver cX2_takeOver 3 none ∈ gT := gT_mem (i := 481) (by decide +kernel) (by decide +kernel)
theorem ml_X2_29 : Cond.methodLink RX2 29 yX2_empty ∈ gT := gT_mem (i := 482) (by decide +kernel) (by decide +kernel)
theorem ml_X2_32 : Cond.methodLink RX2 32 yX2_count ∈ gT := gT_mem (i := 483) (by decide +kernel) (by decide +kernel)
theorem ml_X2_35 : Cond.methodLink RX2 35 yX2_add ∈ gT := gT_mem (i := 484) (by decide +kernel) (by decide +kernel)
theorem ml_X5_173 : Cond.methodLink RX5 173 yX4_lay ∈ gT := gT_mem (i := 485) (by decide +kernel) (by decide +kernel)
theorem im_yX4_lay : Cond.instanceMethod yX4_lay ∈ gT := gT_mem (i := 486) (by decide +kernel) (by decide +kernel)
theorem se_yX4_lay : Cond.selects RX4 yX4_lay yX4_lay ∈ gT := gT_mem (i := 487) (by decide +kernel) (by decide +kernel)
theorem cd_yX4_lay : Cond.code yX4_lay cX4_lay 4 none ∈ gT := gT_mem (i := 488) (by decide +kernel) (by decide +kernel)
theorem ml_X4_62 : Cond.methodLink RX4 62 yX2_empty ∈ gT := gT_mem (i := 489) (by decide +kernel) (by decide +kernel)
theorem ml_X4_95 : Cond.methodLink RX4 95 yX4_beginWord ∈ gT := gT_mem (i := 490) (by decide +kernel) (by decide +kernel)
theorem im_yX4_beginWord : Cond.instanceMethod yX4_beginWord ∈ gT := gT_mem (i := 492) (by decide +kernel) (by decide +kernel)
theorem cd_yX4_beginWord : Cond.code yX4_beginWord cX4_beginWord 4 none ∈ gT := gT_mem (i := 493) (by decide +kernel) (by decide +kernel)
theorem ml_X4_98 : Cond.methodLink RX4 98 yX1_uncutSize ∈ gT := gT_mem (i := 494) (by decide +kernel) (by decide +kernel)
theorem ml_X4_59 : Cond.methodLink RX4 59 yX1_add ∈ gT := gT_mem (i := 495) (by decide +kernel) (by decide +kernel)
theorem ml_X4_64 : Cond.methodLink RX4 64 yX2_add ∈ gT := gT_mem (i := 496) (by decide +kernel) (by decide +kernel)
theorem ml_X4_101 : Cond.methodLink RX4 101 yX1_get ∈ gT := gT_mem (i := 497) (by decide +kernel) (by decide +kernel)
theorem im_yX1_get : Cond.instanceMethod yX1_get ∈ gT := gT_mem (i := 498) (by decide +kernel) (by decide +kernel)
theorem se_yX1_get : Cond.selects RX1 yX1_get yX1_get ∈ gT := gT_mem (i := 499) (by decide +kernel) (by decide +kernel)
theorem cd_yX1_get : Cond.code yX1_get cX1_get 3 (some FieldType.int) ∈ gT := gT_mem (i := 500) (by decide +kernel) (by decide +kernel)
theorem ml_L_118 : Cond.methodLink RL 118 yL_mend ∈ gT := gT_mem (i := 501) (by decide +kernel) (by decide +kernel)
theorem st_yL_mend : Cond.static yL_mend ∈ gT := gT_mem (i := 502) (by decide +kernel) (by decide +kernel)
theorem cw_yL_mend : Cond.codeWith yL_mend cL_mend 6 (some FieldType.int) [(0, 12, 15, 13), (0, 12, 19, 26)] ∈ gT := gT_mem (i := 503) (by decide +kernel) (by decide +kernel)
theorem cl_L_26 : Cond.classLink RL 26 "java/util/NoSuchElementException" ∈ gT := gT_mem (i := 504) (by decide +kernel) (by decide +kernel)
theorem ml_L_23 : Cond.methodLink RL 23 yX5_mend ∈ gT := gT_mem (i := 505) (by decide +kernel) (by decide +kernel)
theorem im_yX5_mend : Cond.instanceMethod yX5_mend ∈ gT := gT_mem (i := 506) (by decide +kernel) (by decide +kernel)
theorem se_yX5_mend : Cond.selects RX5 yX5_mend yX5_mend ∈ gT := gT_mem (i := 507) (by decide +kernel) (by decide +kernel)
theorem cd_yX5_mend : Cond.code yX5_mend cX5_mend 5 (some FieldType.int) ∈ gT := gT_mem (i := 508) (by decide +kernel) (by decide +kernel)
theorem cl_X5_110 : Cond.classLink RX5 110 "java/util/NoSuchElementException" ∈ gT := gT_mem (i := 510) (by decide +kernel) (by decide +kernel)
theorem ml_X5_114 : Cond.methodLink RX5 114 ⟨"java/util/NoSuchElementException", "<init>", "(Ljava/lang/String;)V"⟩ ∈ gT := gT_mem (i := 520) (by decide +kernel) (by decide +kernel)
theorem ml_X5_115 : Cond.methodLink RX5 115 yX3_alter ∈ gT := gT_mem (i := 526) (by decide +kernel) (by decide +kernel)
theorem im_yX3_alter : Cond.instanceMethod yX3_alter ∈ gT := gT_mem (i := 527) (by decide +kernel) (by decide +kernel)
theorem se_yX3_alter : Cond.selects RX3 yX3_alter yX3_alter ∈ gT := gT_mem (i := 528) (by decide +kernel) (by decide +kernel)
theorem cd_yX3_alter : Cond.code yX3_alter cX3_alter 5 none ∈ gT := gT_mem (i := 529) (by decide +kernel) (by decide +kernel)
theorem ml_X3_56 : Cond.methodLink RX3 56 yX2_set ∈ gT := gT_mem (i := 530) (by decide +kernel) (by decide +kernel)
theorem ml_L_121 : Cond.methodLink RL 121 yL_removeRule ∈ gT := gT_mem (i := 531) (by decide +kernel) (by decide +kernel)
theorem st_yL_removeRule : Cond.static yL_removeRule ∈ gT := gT_mem (i := 532) (by decide +kernel) (by decide +kernel)
theorem cw_yL_removeRule : Cond.codeWith yL_removeRule cL_removeRule 4 (some FieldType.int) [(0, 9, 12, 32)] ∈ gT := gT_mem (i := 533) (by decide +kernel) (by decide +kernel)
theorem cl_L_32 : Cond.classLink RL 32 "java/lang/IndexOutOfBoundsException" ∈ gT := gT_mem (i := 534) (by decide +kernel) (by decide +kernel)
theorem ins_Jx00060 : Cond.instantiable RJx00060 6 ∈ gT := gT_mem (i := 535) (by decide +kernel) (by decide +kernel)
theorem im_yJx00060_init_a7421 : Cond.instanceMethod yJx00060_init_a7421 ∈ gT := gT_mem (i := 536) (by decide +kernel) (by decide +kernel)
theorem cd_yJx00060_init_a7421 : Cond.code yJx00060_init_a7421 cJx00060_init_a7421 2 none ∈ gT := gT_mem (i := 537) (by decide +kernel) (by decide +kernel)
theorem ml_Jx00060_7 : Cond.methodLink RJx00060 7 ⟨"java/lang/IndexOutOfBoundsException", "<init>", "(Ljava/lang/String;)V"⟩ ∈ gT := gT_mem (i := 538) (by decide +kernel) (by decide +kernel)
theorem ins_J0 : Cond.instantiable RJ0 4 ∈ gT := gT_mem (i := 553) (by decide +kernel) (by decide +kernel)
theorem ml_L_28 : Cond.methodLink RL 28 yX5_removeRule ∈ gT := gT_mem (i := 558) (by decide +kernel) (by decide +kernel)
theorem im_yX5_removeRule : Cond.instanceMethod yX5_removeRule ∈ gT := gT_mem (i := 559) (by decide +kernel) (by decide +kernel)
theorem se_yX5_removeRule : Cond.selects RX5 yX5_removeRule yX5_removeRule ∈ gT := gT_mem (i := 560) (by decide +kernel) (by decide +kernel)
theorem cd_yX5_removeRule : Cond.code yX5_removeRule cX5_removeRule 2 (some FieldType.int) ∈ gT := gT_mem (i := 561) (by decide +kernel) (by decide +kernel)
theorem ml_X5_119 : Cond.methodLink RX5 119 yX3_hasPlace ∈ gT := gT_mem (i := 562) (by decide +kernel) (by decide +kernel)
theorem im_yX3_hasPlace : Cond.instanceMethod yX3_hasPlace ∈ gT := gT_mem (i := 563) (by decide +kernel) (by decide +kernel)
theorem se_yX3_hasPlace : Cond.selects RX3 yX3_hasPlace yX3_hasPlace ∈ gT := gT_mem (i := 564) (by decide +kernel) (by decide +kernel)
theorem cd_yX3_hasPlace : Cond.code yX3_hasPlace cX3_hasPlace 2 (some FieldType.boolean) ∈ gT := gT_mem (i := 565) (by decide +kernel) (by decide +kernel)
theorem cl_X5_123 : Cond.classLink RX5 123 "java/lang/IndexOutOfBoundsException" ∈ gT := gT_mem (i := 566) (by decide +kernel) (by decide +kernel)
theorem ml_X5_127 : Cond.methodLink RX5 127 ⟨"java/lang/IndexOutOfBoundsException", "<init>", "(Ljava/lang/String;)V"⟩ ∈ gT := gT_mem (i := 576) (by decide +kernel) (by decide +kernel)
theorem ml_X5_128 : Cond.methodLink RX5 128 yX3_takeAway ∈ gT := gT_mem (i := 579) (by decide +kernel) (by decide +kernel)
theorem im_yX3_takeAway : Cond.instanceMethod yX3_takeAway ∈ gT := gT_mem (i := 580) (by decide +kernel) (by decide +kernel)
theorem se_yX3_takeAway : Cond.selects RX3 yX3_takeAway yX3_takeAway ∈ gT := gT_mem (i := 581) (by decide +kernel) (by decide +kernel)
theorem cd_yX3_takeAway : Cond.code yX3_takeAway cX3_takeAway 2 none ∈ gT := gT_mem (i := 582) (by decide +kernel) (by decide +kernel)
theorem ml_X3_59 : Cond.methodLink RX3 59 yX2_remove ∈ gT := gT_mem (i := 583) (by decide +kernel) (by decide +kernel)
theorem im_yX2_remove : Cond.instanceMethod yX2_remove ∈ gT := gT_mem (i := 584) (by decide +kernel) (by decide +kernel)
theorem se_yX2_remove : Cond.selects RX2 yX2_remove yX2_remove ∈ gT := gT_mem (i := 585) (by decide +kernel) (by decide +kernel)
theorem cd_yX2_remove : Cond.code yX2_remove cX2_remove 2 none ∈ gT := gT_mem (i := 586) (by decide +kernel) (by decide +kernel)
theorem ml_X5_131 : Cond.methodLink RX5 131 yX3_count ∈ gT := gT_mem (i := 587) (by decide +kernel) (by decide +kernel)
theorem im_yX3_count : Cond.instanceMethod yX3_count ∈ gT := gT_mem (i := 588) (by decide +kernel) (by decide +kernel)
theorem se_yX3_count : Cond.selects RX3 yX3_count yX3_count ∈ gT := gT_mem (i := 589) (by decide +kernel) (by decide +kernel)
theorem cd_yX3_count : Cond.code yX3_count cX3_count 1 (some FieldType.int) ∈ gT := gT_mem (i := 590) (by decide +kernel) (by decide +kernel)
theorem ml_L_125 : Cond.methodLink RL 125 yL_ruleAt ∈ gT := gT_mem (i := 591) (by decide +kernel) (by decide +kernel)
theorem st_yL_ruleAt : Cond.static yL_ruleAt ∈ gT := gT_mem (i := 592) (by decide +kernel) (by decide +kernel)
theorem cw_yL_ruleAt : Cond.codeWith yL_ruleAt cL_ruleAt 5 (some FieldType.int) [(0, 10, 13, 32), (0, 10, 17, 26)] ∈ gT := gT_mem (i := 593) (by decide +kernel) (by decide +kernel)
theorem ml_L_34 : Cond.methodLink RL 34 yX5_ruleAt ∈ gT := gT_mem (i := 594) (by decide +kernel) (by decide +kernel)
theorem im_yX5_ruleAt : Cond.instanceMethod yX5_ruleAt ∈ gT := gT_mem (i := 595) (by decide +kernel) (by decide +kernel)
theorem se_yX5_ruleAt : Cond.selects RX5 yX5_ruleAt yX5_ruleAt ∈ gT := gT_mem (i := 596) (by decide +kernel) (by decide +kernel)
theorem cd_yX5_ruleAt : Cond.code yX5_ruleAt cX5_ruleAt 4 (some FieldType.char) ∈ gT := gT_mem (i := 597) (by decide +kernel) (by decide +kernel)
theorem ml_X5_132 : Cond.methodLink RX5 132 yX3_letterAt ∈ gT := gT_mem (i := 598) (by decide +kernel) (by decide +kernel)
theorem im_yX3_letterAt : Cond.instanceMethod yX3_letterAt ∈ gT := gT_mem (i := 599) (by decide +kernel) (by decide +kernel)
theorem se_yX3_letterAt : Cond.selects RX3 yX3_letterAt yX3_letterAt ∈ gT := gT_mem (i := 600) (by decide +kernel) (by decide +kernel)
theorem cd_yX3_letterAt : Cond.code yX3_letterAt cX3_letterAt 5 (some FieldType.int) ∈ gT := gT_mem (i := 601) (by decide +kernel) (by decide +kernel)
theorem ml_L_129 : Cond.methodLink RL 129 yL_turnException ∈ gT := gT_mem (i := 603) (by decide +kernel) (by decide +kernel)
theorem st_yL_turnException : Cond.static yL_turnException ∈ gT := gT_mem (i := 604) (by decide +kernel) (by decide +kernel)
theorem cw_yL_turnException : Cond.codeWith yL_turnException cL_turnException 3 (some FieldType.int) [(0, 15, 18, 13), (0, 15, 21, 15)] ∈ gT := gT_mem (i := 605) (by decide +kernel) (by decide +kernel)
theorem ml_L_38 : Cond.methodLink RL 38 yX5_turnException ∈ gT := gT_mem (i := 606) (by decide +kernel) (by decide +kernel)
theorem im_yX5_turnException : Cond.instanceMethod yX5_turnException ∈ gT := gT_mem (i := 607) (by decide +kernel) (by decide +kernel)
theorem se_yX5_turnException : Cond.selects RX5 yX5_turnException yX5_turnException ∈ gT := gT_mem (i := 608) (by decide +kernel) (by decide +kernel)
theorem cd_yX5_turnException : Cond.code yX5_turnException cX5_turnException 2 (some FieldType.boolean) ∈ gT := gT_mem (i := 609) (by decide +kernel) (by decide +kernel)
theorem ml_X5_141 : Cond.methodLink RX5 141 yX3_placeOfException ∈ gT := gT_mem (i := 611) (by decide +kernel) (by decide +kernel)
theorem ml_X5_145 : Cond.methodLink RX5 145 yX3_isFullOfExceptions ∈ gT := gT_mem (i := 612) (by decide +kernel) (by decide +kernel)
theorem im_yX3_isFullOfExceptions : Cond.instanceMethod yX3_isFullOfExceptions ∈ gT := gT_mem (i := 613) (by decide +kernel) (by decide +kernel)
theorem se_yX3_isFullOfExceptions : Cond.selects RX3 yX3_isFullOfExceptions yX3_isFullOfExceptions ∈ gT := gT_mem (i := 614) (by decide +kernel) (by decide +kernel)
theorem cd_yX3_isFullOfExceptions : Cond.code yX3_isFullOfExceptions cX3_isFullOfExceptions 1 (some FieldType.boolean) ∈ gT := gT_mem (i := 615) (by decide +kernel) (by decide +kernel)
theorem ml_X5_150 : Cond.methodLink RX5 150 yX3_addException ∈ gT := gT_mem (i := 617) (by decide +kernel) (by decide +kernel)
theorem im_yX3_addException : Cond.instanceMethod yX3_addException ∈ gT := gT_mem (i := 618) (by decide +kernel) (by decide +kernel)
theorem se_yX3_addException : Cond.selects RX3 yX3_addException yX3_addException ∈ gT := gT_mem (i := 619) (by decide +kernel) (by decide +kernel)
theorem cd_yX3_addException : Cond.code yX3_addException cX3_addException 3 none ∈ gT := gT_mem (i := 620) (by decide +kernel) (by decide +kernel)
theorem ml_X3_70 : Cond.methodLink RX3 70 yX1_cut ∈ gT := gT_mem (i := 621) (by decide +kernel) (by decide +kernel)
theorem ml_X5_154 : Cond.methodLink RX5 154 yX3_dropException ∈ gT := gT_mem (i := 622) (by decide +kernel) (by decide +kernel)
theorem im_yX3_dropException : Cond.instanceMethod yX3_dropException ∈ gT := gT_mem (i := 623) (by decide +kernel) (by decide +kernel)
theorem se_yX3_dropException : Cond.selects RX3 yX3_dropException yX3_dropException ∈ gT := gT_mem (i := 624) (by decide +kernel) (by decide +kernel)
theorem cd_yX3_dropException : Cond.code yX3_dropException cX3_dropException 2 none ∈ gT := gT_mem (i := 625) (by decide +kernel) (by decide +kernel)
theorem ml_X3_73 : Cond.methodLink RX3 73 yX1_drop ∈ gT := gT_mem (i := 626) (by decide +kernel) (by decide +kernel)
theorem im_yX1_drop : Cond.instanceMethod yX1_drop ∈ gT := gT_mem (i := 627) (by decide +kernel) (by decide +kernel)
theorem se_yX1_drop : Cond.selects RX1 yX1_drop yX1_drop ∈ gT := gT_mem (i := 628) (by decide +kernel) (by decide +kernel)
theorem cd_yX1_drop : Cond.code yX1_drop cX1_drop 5 none ∈ gT := gT_mem (i := 629) (by decide +kernel) (by decide +kernel)
theorem ml_X1_45 : Cond.methodLink RX1 45 yX1_sizeOf ∈ gT := gT_mem (i := 630) (by decide +kernel) (by decide +kernel)
theorem ml_X1_48 : Cond.methodLink RX1 48 yX2_remove ∈ gT := gT_mem (i := 631) (by decide +kernel) (by decide +kernel)
theorem ml_X1_51 : Cond.methodLink RX1 51 yX2_set ∈ gT := gT_mem (i := 632) (by decide +kernel) (by decide +kernel)
theorem ml_L_133 : Cond.methodLink RL 133 yL_setText ∈ gT := gT_mem (i := 633) (by decide +kernel) (by decide +kernel)
theorem st_yL_setText : Cond.static yL_setText ∈ gT := gT_mem (i := 634) (by decide +kernel) (by decide +kernel)
theorem cw_yL_setText : Cond.codeWith yL_setText cL_setText 5 (some FieldType.int) [(0, 10, 13, 32), (0, 10, 17, 13)] ∈ gT := gT_mem (i := 635) (by decide +kernel) (by decide +kernel)
theorem ml_L_42 : Cond.methodLink RL 42 yX5_setText ∈ gT := gT_mem (i := 636) (by decide +kernel) (by decide +kernel)
theorem im_yX5_setText : Cond.instanceMethod yX5_setText ∈ gT := gT_mem (i := 637) (by decide +kernel) (by decide +kernel)
theorem se_yX5_setText : Cond.selects RX5 yX5_setText yX5_setText ∈ gT := gT_mem (i := 638) (by decide +kernel) (by decide +kernel)
theorem cd_yX5_setText : Cond.code yX5_setText cX5_setText 4 (some FieldType.int) ∈ gT := gT_mem (i := 639) (by decide +kernel) (by decide +kernel)
theorem mn_X5_164 : Cond.methodLinkNest RX5 164 yX4_init RX5 ∈ lw_tbl := List.mem_of_getElem? (i := 642) (by decide +kernel)
theorem im_yX4_init : Cond.instanceMethod yX4_init ∈ gT := gT_mem (i := 643) (by decide +kernel) (by decide +kernel)
theorem cd_yX4_init : Cond.code yX4_init cX4_init 1 none ∈ gT := gT_mem (i := 644) (by decide +kernel) (by decide +kernel)
theorem ml_X4_3 : Cond.methodLink RX4 3 ⟨"java/lang/Object", "<init>", "()V"⟩ ∈ gT := gT_mem (i := 645) (by decide +kernel) (by decide +kernel)
theorem cl_X4_9 : Cond.classLink RX4 9 RX1 ∈ gT := gT_mem (i := 646) (by decide +kernel) (by decide +kernel)
theorem ml_X4_11 : Cond.methodLink RX4 11 yX1_init ∈ gT := gT_mem (i := 647) (by decide +kernel) (by decide +kernel)
theorem cl_X4_23 : Cond.classLink RX4 23 RX2 ∈ gT := gT_mem (i := 648) (by decide +kernel) (by decide +kernel)
theorem ml_X4_25 : Cond.methodLink RX4 25 yX2_init ∈ gT := gT_mem (i := 649) (by decide +kernel) (by decide +kernel)
theorem fl_X4_14 : Cond.fieldLink RX4 14 "Dotpress$Text" "typed" "LDotpress$Pieces;" ∈ gT := gT_mem (i := 650) (by decide +kernel) (by decide +kernel)
theorem fl_X4_20 : Cond.fieldLink RX4 20 "Dotpress$Text" "cells" "LDotpress$Pieces;" ∈ gT := gT_mem (i := 651) (by decide +kernel) (by decide +kernel)
theorem fl_X4_28 : Cond.fieldLink RX4 28 "Dotpress$Text" "marks" "LDotpress$Row;" ∈ gT := gT_mem (i := 652) (by decide +kernel) (by decide +kernel)
theorem fl_X4_32 : Cond.fieldLink RX4 32 "Dotpress$Text" "laid" "LDotpress$Pieces;" ∈ gT := gT_mem (i := 653) (by decide +kernel) (by decide +kernel)
theorem fl_X4_35 : Cond.fieldLink RX4 35 "Dotpress$Text" "firstLines" "LDotpress$Row;" ∈ gT := gT_mem (i := 654) (by decide +kernel) (by decide +kernel)
theorem fl_X4_38 : Cond.fieldLink RX4 38 "Dotpress$Text" "embossed" "LDotpress$Pieces;" ∈ gT := gT_mem (i := 655) (by decide +kernel) (by decide +kernel)
theorem fl_X4_41 : Cond.fieldLink RX4 41 "Dotpress$Text" "grade" "I" ∈ gT := gT_mem (i := 656) (by decide +kernel) (by decide +kernel)
theorem ml_X5_165 : Cond.methodLink RX5 165 yX4_take ∈ gT := gT_mem (i := 672) (by decide +kernel) (by decide +kernel)
theorem im_yX4_take : Cond.instanceMethod yX4_take ∈ gT := gT_mem (i := 673) (by decide +kernel) (by decide +kernel)
theorem se_yX4_take : Cond.selects RX4 yX4_take yX4_take ∈ gT := gT_mem (i := 674) (by decide +kernel) (by decide +kernel)
theorem cd_yX4_take : Cond.code yX4_take cX4_take 4 none ∈ gT := gT_mem (i := 675) (by decide +kernel) (by decide +kernel)
theorem ml_X5_176 : Cond.methodLink RX5 176 yX4_wordCount ∈ gT := gT_mem (i := 676) (by decide +kernel) (by decide +kernel)
theorem im_yX4_wordCount : Cond.instanceMethod yX4_wordCount ∈ gT := gT_mem (i := 677) (by decide +kernel) (by decide +kernel)
theorem se_yX4_wordCount : Cond.selects RX4 yX4_wordCount yX4_wordCount ∈ gT := gT_mem (i := 678) (by decide +kernel) (by decide +kernel)
theorem cd_yX4_wordCount : Cond.code yX4_wordCount cX4_wordCount 1 (some FieldType.int) ∈ gT := gT_mem (i := 679) (by decide +kernel) (by decide +kernel)
theorem ml_L_136 : Cond.methodLink RL 136 yL_setWidth ∈ gT := gT_mem (i := 680) (by decide +kernel) (by decide +kernel)
theorem st_yL_setWidth : Cond.static yL_setWidth ∈ gT := gT_mem (i := 681) (by decide +kernel) (by decide +kernel)
theorem cw_yL_setWidth : Cond.codeWith yL_setWidth cL_setWidth 4 (some FieldType.int) [(0, 9, 12, 13)] ∈ gT := gT_mem (i := 682) (by decide +kernel) (by decide +kernel)
theorem ml_L_46 : Cond.methodLink RL 46 yX5_setWidth ∈ gT := gT_mem (i := 683) (by decide +kernel) (by decide +kernel)
theorem im_yX5_setWidth : Cond.instanceMethod yX5_setWidth ∈ gT := gT_mem (i := 684) (by decide +kernel) (by decide +kernel)
theorem se_yX5_setWidth : Cond.selects RX5 yX5_setWidth yX5_setWidth ∈ gT := gT_mem (i := 685) (by decide +kernel) (by decide +kernel)
theorem cd_yX5_setWidth : Cond.code yX5_setWidth cX5_setWidth 7 (some FieldType.int) ∈ gT := gT_mem (i := 686) (by decide +kernel) (by decide +kernel)
theorem ml_L_139 : Cond.methodLink RL 139 yL_words ∈ gT := gT_mem (i := 688) (by decide +kernel) (by decide +kernel)
theorem st_yL_words : Cond.static yL_words ∈ gT := gT_mem (i := 689) (by decide +kernel) (by decide +kernel)
theorem cw_yL_words : Cond.codeWith yL_words cL_words 4 (some FieldType.int) [(0, 9, 12, 32)] ∈ gT := gT_mem (i := 690) (by decide +kernel) (by decide +kernel)
theorem ml_L_49 : Cond.methodLink RL 49 yX5_words ∈ gT := gT_mem (i := 691) (by decide +kernel) (by decide +kernel)
theorem im_yX5_words : Cond.instanceMethod yX5_words ∈ gT := gT_mem (i := 692) (by decide +kernel) (by decide +kernel)
theorem se_yX5_words : Cond.selects RX5 yX5_words yX5_words ∈ gT := gT_mem (i := 693) (by decide +kernel) (by decide +kernel)
theorem cd_yX5_words : Cond.code yX5_words cX5_words 2 (some FieldType.int) ∈ gT := gT_mem (i := 694) (by decide +kernel) (by decide +kernel)
theorem ml_X5_181 : Cond.methodLink RX5 181 yX5_textNumbered ∈ gT := gT_mem (i := 695) (by decide +kernel) (by decide +kernel)
theorem im_yX5_textNumbered : Cond.instanceMethod yX5_textNumbered ∈ gT := gT_mem (i := 697) (by decide +kernel) (by decide +kernel)
theorem cd_yX5_textNumbered : Cond.code yX5_textNumbered cX5_textNumbered 3 (some (FieldType.object "Dotpress$Text")) ∈ gT := gT_mem (i := 698) (by decide +kernel) (by decide +kernel)
theorem ml_L_142 : Cond.methodLink RL 142 yL_length ∈ gT := gT_mem (i := 700) (by decide +kernel) (by decide +kernel)
theorem st_yL_length : Cond.static yL_length ∈ gT := gT_mem (i := 701) (by decide +kernel) (by decide +kernel)
theorem cw_yL_length : Cond.codeWith yL_length cL_length 5 (some FieldType.int) [(0, 10, 13, 32)] ∈ gT := gT_mem (i := 702) (by decide +kernel) (by decide +kernel)
theorem ml_L_52 : Cond.methodLink RL 52 yX5_length ∈ gT := gT_mem (i := 703) (by decide +kernel) (by decide +kernel)
theorem im_yX5_length : Cond.instanceMethod yX5_length ∈ gT := gT_mem (i := 704) (by decide +kernel) (by decide +kernel)
theorem se_yX5_length : Cond.selects RX5 yX5_length yX5_length ∈ gT := gT_mem (i := 705) (by decide +kernel) (by decide +kernel)
theorem cd_yX5_length : Cond.code yX5_length cX5_length 3 (some FieldType.int) ∈ gT := gT_mem (i := 706) (by decide +kernel) (by decide +kernel)
theorem ml_X5_185 : Cond.methodLink RX5 185 yX5_textWithWord ∈ gT := gT_mem (i := 707) (by decide +kernel) (by decide +kernel)
theorem im_yX5_textWithWord : Cond.instanceMethod yX5_textWithWord ∈ gT := gT_mem (i := 709) (by decide +kernel) (by decide +kernel)
theorem cd_yX5_textWithWord : Cond.code yX5_textWithWord cX5_textWithWord 4 (some (FieldType.object "Dotpress$Text")) ∈ gT := gT_mem (i := 710) (by decide +kernel) (by decide +kernel)
theorem ml_X5_189 : Cond.methodLink RX5 189 yX4_cellCount ∈ gT := gT_mem (i := 712) (by decide +kernel) (by decide +kernel)
theorem im_yX4_cellCount : Cond.instanceMethod yX4_cellCount ∈ gT := gT_mem (i := 713) (by decide +kernel) (by decide +kernel)
theorem se_yX4_cellCount : Cond.selects RX4 yX4_cellCount yX4_cellCount ∈ gT := gT_mem (i := 714) (by decide +kernel) (by decide +kernel)
theorem cd_yX4_cellCount : Cond.code yX4_cellCount cX4_cellCount 2 (some FieldType.int) ∈ gT := gT_mem (i := 715) (by decide +kernel) (by decide +kernel)
theorem ml_L_145 : Cond.methodLink RL 145 yL_cellOf ∈ gT := gT_mem (i := 716) (by decide +kernel) (by decide +kernel)
theorem st_yL_cellOf : Cond.static yL_cellOf ∈ gT := gT_mem (i := 717) (by decide +kernel) (by decide +kernel)
theorem cw_yL_cellOf : Cond.codeWith yL_cellOf cL_cellOf 6 (some FieldType.int) [(0, 12, 15, 32), (0, 12, 19, 26)] ∈ gT := gT_mem (i := 718) (by decide +kernel) (by decide +kernel)
theorem ml_L_55 : Cond.methodLink RL 55 yX5_cellOf ∈ gT := gT_mem (i := 719) (by decide +kernel) (by decide +kernel)
theorem im_yX5_cellOf : Cond.instanceMethod yX5_cellOf ∈ gT := gT_mem (i := 720) (by decide +kernel) (by decide +kernel)
theorem se_yX5_cellOf : Cond.selects RX5 yX5_cellOf yX5_cellOf ∈ gT := gT_mem (i := 721) (by decide +kernel) (by decide +kernel)
theorem cd_yX5_cellOf : Cond.code yX5_cellOf cX5_cellOf 5 (some FieldType.int) ∈ gT := gT_mem (i := 722) (by decide +kernel) (by decide +kernel)
theorem ml_X5_194 : Cond.methodLink RX5 194 yX4_cellAt ∈ gT := gT_mem (i := 724) (by decide +kernel) (by decide +kernel)
theorem im_yX4_cellAt : Cond.instanceMethod yX4_cellAt ∈ gT := gT_mem (i := 725) (by decide +kernel) (by decide +kernel)
theorem se_yX4_cellAt : Cond.selects RX4 yX4_cellAt yX4_cellAt ∈ gT := gT_mem (i := 726) (by decide +kernel) (by decide +kernel)
theorem cd_yX4_cellAt : Cond.code yX4_cellAt cX4_cellAt 3 (some FieldType.int) ∈ gT := gT_mem (i := 727) (by decide +kernel) (by decide +kernel)
theorem ml_L_148 : Cond.methodLink RL 148 yL_lines ∈ gT := gT_mem (i := 728) (by decide +kernel) (by decide +kernel)
theorem st_yL_lines : Cond.static yL_lines ∈ gT := gT_mem (i := 729) (by decide +kernel) (by decide +kernel)
theorem cw_yL_lines : Cond.codeWith yL_lines cL_lines 4 (some FieldType.int) [(0, 9, 12, 32)] ∈ gT := gT_mem (i := 730) (by decide +kernel) (by decide +kernel)
theorem ml_L_58 : Cond.methodLink RL 58 yX5_lines ∈ gT := gT_mem (i := 731) (by decide +kernel) (by decide +kernel)
theorem im_yX5_lines : Cond.instanceMethod yX5_lines ∈ gT := gT_mem (i := 732) (by decide +kernel) (by decide +kernel)
theorem se_yX5_lines : Cond.selects RX5 yX5_lines yX5_lines ∈ gT := gT_mem (i := 733) (by decide +kernel) (by decide +kernel)
theorem cd_yX5_lines : Cond.code yX5_lines cX5_lines 2 (some FieldType.int) ∈ gT := gT_mem (i := 734) (by decide +kernel) (by decide +kernel)
theorem ml_X5_197 : Cond.methodLink RX5 197 yX4_lineCount ∈ gT := gT_mem (i := 735) (by decide +kernel) (by decide +kernel)
theorem im_yX4_lineCount : Cond.instanceMethod yX4_lineCount ∈ gT := gT_mem (i := 736) (by decide +kernel) (by decide +kernel)
theorem se_yX4_lineCount : Cond.selects RX4 yX4_lineCount yX4_lineCount ∈ gT := gT_mem (i := 737) (by decide +kernel) (by decide +kernel)
theorem cd_yX4_lineCount : Cond.code yX4_lineCount cX4_lineCount 1 (some FieldType.int) ∈ gT := gT_mem (i := 738) (by decide +kernel) (by decide +kernel)
theorem ml_L_151 : Cond.methodLink RL 151 yL_lineAt ∈ gT := gT_mem (i := 739) (by decide +kernel) (by decide +kernel)
theorem st_yL_lineAt : Cond.static yL_lineAt ∈ gT := gT_mem (i := 740) (by decide +kernel) (by decide +kernel)
theorem cw_yL_lineAt : Cond.codeWith yL_lineAt cL_lineAt 6 (some FieldType.int) [(0, 12, 15, 32), (0, 12, 19, 26)] ∈ gT := gT_mem (i := 741) (by decide +kernel) (by decide +kernel)
theorem ml_L_61 : Cond.methodLink RL 61 yX5_lineAt ∈ gT := gT_mem (i := 742) (by decide +kernel) (by decide +kernel)
theorem im_yX5_lineAt : Cond.instanceMethod yX5_lineAt ∈ gT := gT_mem (i := 743) (by decide +kernel) (by decide +kernel)
theorem se_yX5_lineAt : Cond.selects RX5 yX5_lineAt yX5_lineAt ∈ gT := gT_mem (i := 744) (by decide +kernel) (by decide +kernel)
theorem cd_yX5_lineAt : Cond.code yX5_lineAt cX5_lineAt 5 (some FieldType.int) ∈ gT := gT_mem (i := 745) (by decide +kernel) (by decide +kernel)
theorem ml_X5_202 : Cond.methodLink RX5 202 yX4_lineSize ∈ gT := gT_mem (i := 747) (by decide +kernel) (by decide +kernel)
theorem im_yX4_lineSize : Cond.instanceMethod yX4_lineSize ∈ gT := gT_mem (i := 748) (by decide +kernel) (by decide +kernel)
theorem se_yX4_lineSize : Cond.selects RX4 yX4_lineSize yX4_lineSize ∈ gT := gT_mem (i := 749) (by decide +kernel) (by decide +kernel)
theorem cd_yX4_lineSize : Cond.code yX4_lineSize cX4_lineSize 2 (some FieldType.int) ∈ gT := gT_mem (i := 750) (by decide +kernel) (by decide +kernel)
theorem ml_X5_207 : Cond.methodLink RX5 207 yX4_laidCellAt ∈ gT := gT_mem (i := 752) (by decide +kernel) (by decide +kernel)
theorem im_yX4_laidCellAt : Cond.instanceMethod yX4_laidCellAt ∈ gT := gT_mem (i := 753) (by decide +kernel) (by decide +kernel)
theorem se_yX4_laidCellAt : Cond.selects RX4 yX4_laidCellAt yX4_laidCellAt ∈ gT := gT_mem (i := 754) (by decide +kernel) (by decide +kernel)
theorem cd_yX4_laidCellAt : Cond.code yX4_laidCellAt cX4_laidCellAt 3 (some FieldType.int) ∈ gT := gT_mem (i := 755) (by decide +kernel) (by decide +kernel)
theorem ml_L_154 : Cond.methodLink RL 154 yL_lineOf ∈ gT := gT_mem (i := 756) (by decide +kernel) (by decide +kernel)
theorem st_yL_lineOf : Cond.static yL_lineOf ∈ gT := gT_mem (i := 757) (by decide +kernel) (by decide +kernel)
theorem cw_yL_lineOf : Cond.codeWith yL_lineOf cL_lineOf 5 (some FieldType.int) [(0, 10, 13, 32)] ∈ gT := gT_mem (i := 758) (by decide +kernel) (by decide +kernel)
theorem ml_L_64 : Cond.methodLink RL 64 yX5_lineOf ∈ gT := gT_mem (i := 759) (by decide +kernel) (by decide +kernel)
theorem im_yX5_lineOf : Cond.instanceMethod yX5_lineOf ∈ gT := gT_mem (i := 760) (by decide +kernel) (by decide +kernel)
theorem se_yX5_lineOf : Cond.selects RX5 yX5_lineOf yX5_lineOf ∈ gT := gT_mem (i := 761) (by decide +kernel) (by decide +kernel)
theorem cd_yX5_lineOf : Cond.code yX5_lineOf cX5_lineOf 3 (some FieldType.int) ∈ gT := gT_mem (i := 762) (by decide +kernel) (by decide +kernel)
theorem ml_X5_210 : Cond.methodLink RX5 210 yX4_firstLineOf ∈ gT := gT_mem (i := 763) (by decide +kernel) (by decide +kernel)
theorem im_yX4_firstLineOf : Cond.instanceMethod yX4_firstLineOf ∈ gT := gT_mem (i := 764) (by decide +kernel) (by decide +kernel)
theorem se_yX4_firstLineOf : Cond.selects RX4 yX4_firstLineOf yX4_firstLineOf ∈ gT := gT_mem (i := 765) (by decide +kernel) (by decide +kernel)
theorem cd_yX4_firstLineOf : Cond.code yX4_firstLineOf cX4_firstLineOf 2 (some FieldType.int) ∈ gT := gT_mem (i := 766) (by decide +kernel) (by decide +kernel)
theorem ml_L_157 : Cond.methodLink RL 157 yL_emboss ∈ gT := gT_mem (i := 767) (by decide +kernel) (by decide +kernel)
theorem st_yL_emboss : Cond.static yL_emboss ∈ gT := gT_mem (i := 768) (by decide +kernel) (by decide +kernel)
theorem cw_yL_emboss : Cond.codeWith yL_emboss cL_emboss 4 (some FieldType.int) [(0, 9, 12, 32), (0, 9, 15, 15)] ∈ gT := gT_mem (i := 769) (by decide +kernel) (by decide +kernel)
theorem ml_L_67 : Cond.methodLink RL 67 yX5_emboss ∈ gT := gT_mem (i := 770) (by decide +kernel) (by decide +kernel)
theorem im_yX5_emboss : Cond.instanceMethod yX5_emboss ∈ gT := gT_mem (i := 771) (by decide +kernel) (by decide +kernel)
theorem se_yX5_emboss : Cond.selects RX5 yX5_emboss yX5_emboss ∈ gT := gT_mem (i := 772) (by decide +kernel) (by decide +kernel)
theorem cd_yX5_emboss : Cond.code yX5_emboss cX5_emboss 8 (some FieldType.int) ∈ gT := gT_mem (i := 773) (by decide +kernel) (by decide +kernel)
theorem ml_X5_213 : Cond.methodLink RX5 213 yX0_forgetPlan ∈ gT := gT_mem (i := 774) (by decide +kernel) (by decide +kernel)
theorem im_yX0_forgetPlan : Cond.instanceMethod yX0_forgetPlan ∈ gT := gT_mem (i := 775) (by decide +kernel) (by decide +kernel)
theorem se_yX0_forgetPlan : Cond.selects RX0 yX0_forgetPlan yX0_forgetPlan ∈ gT := gT_mem (i := 776) (by decide +kernel) (by decide +kernel)
theorem cd_yX0_forgetPlan : Cond.code yX0_forgetPlan cX0_forgetPlan 2 none ∈ gT := gT_mem (i := 777) (by decide +kernel) (by decide +kernel)
theorem ml_X0_37 : Cond.methodLink RX0 37 yX2_set ∈ gT := gT_mem (i := 778) (by decide +kernel) (by decide +kernel)
theorem ml_X5_216 : Cond.methodLink RX5 216 yX4_isOther ∈ gT := gT_mem (i := 779) (by decide +kernel) (by decide +kernel)
theorem im_yX4_isOther : Cond.instanceMethod yX4_isOther ∈ gT := gT_mem (i := 780) (by decide +kernel) (by decide +kernel)
theorem se_yX4_isOther : Cond.selects RX4 yX4_isOther yX4_isOther ∈ gT := gT_mem (i := 781) (by decide +kernel) (by decide +kernel)
theorem cd_yX4_isOther : Cond.code yX4_isOther cX4_isOther 2 (some FieldType.boolean) ∈ gT := gT_mem (i := 782) (by decide +kernel) (by decide +kernel)
theorem ml_X5_219 : Cond.methodLink RX5 219 yX5_planLine ∈ gT := gT_mem (i := 783) (by decide +kernel) (by decide +kernel)
theorem im_yX5_planLine : Cond.instanceMethod yX5_planLine ∈ gT := gT_mem (i := 785) (by decide +kernel) (by decide +kernel)
theorem cd_yX5_planLine : Cond.code yX5_planLine cX5_planLine 4 none ∈ gT := gT_mem (i := 786) (by decide +kernel) (by decide +kernel)
theorem ml_X5_293 : Cond.methodLink RX5 293 yX0_planCell ∈ gT := gT_mem (i := 787) (by decide +kernel) (by decide +kernel)
theorem im_yX0_planCell : Cond.instanceMethod yX0_planCell ∈ gT := gT_mem (i := 788) (by decide +kernel) (by decide +kernel)
theorem se_yX0_planCell : Cond.selects RX0 yX0_planCell yX0_planCell ∈ gT := gT_mem (i := 789) (by decide +kernel) (by decide +kernel)
theorem cd_yX0_planCell : Cond.code yX0_planCell cX0_planCell 3 none ∈ gT := gT_mem (i := 790) (by decide +kernel) (by decide +kernel)
theorem ml_X5_223 : Cond.methodLink RX5 223 yX0_bearsPlan ∈ gT := gT_mem (i := 791) (by decide +kernel) (by decide +kernel)
theorem im_yX0_bearsPlan : Cond.instanceMethod yX0_bearsPlan ∈ gT := gT_mem (i := 792) (by decide +kernel) (by decide +kernel)
theorem se_yX0_bearsPlan : Cond.selects RX0 yX0_bearsPlan yX0_bearsPlan ∈ gT := gT_mem (i := 793) (by decide +kernel) (by decide +kernel)
theorem cd_yX0_bearsPlan : Cond.code yX0_bearsPlan cX0_bearsPlan 2 (some FieldType.boolean) ∈ gT := gT_mem (i := 794) (by decide +kernel) (by decide +kernel)
theorem ml_X5_228 : Cond.methodLink RX5 228 yX0_strikePlan ∈ gT := gT_mem (i := 796) (by decide +kernel) (by decide +kernel)
theorem im_yX0_strikePlan : Cond.instanceMethod yX0_strikePlan ∈ gT := gT_mem (i := 797) (by decide +kernel) (by decide +kernel)
theorem se_yX0_strikePlan : Cond.selects RX0 yX0_strikePlan yX0_strikePlan ∈ gT := gT_mem (i := 798) (by decide +kernel) (by decide +kernel)
theorem cd_yX0_strikePlan : Cond.code yX0_strikePlan cX0_strikePlan 2 none ∈ gT := gT_mem (i := 799) (by decide +kernel) (by decide +kernel)
theorem ml_X5_231 : Cond.methodLink RX5 231 yX4_keepAsEmbossed ∈ gT := gT_mem (i := 800) (by decide +kernel) (by decide +kernel)
theorem im_yX4_keepAsEmbossed : Cond.instanceMethod yX4_keepAsEmbossed ∈ gT := gT_mem (i := 801) (by decide +kernel) (by decide +kernel)
theorem se_yX4_keepAsEmbossed : Cond.selects RX4 yX4_keepAsEmbossed yX4_keepAsEmbossed ∈ gT := gT_mem (i := 802) (by decide +kernel) (by decide +kernel)
theorem cd_yX4_keepAsEmbossed : Cond.code yX4_keepAsEmbossed cX4_keepAsEmbossed 1 none ∈ gT := gT_mem (i := 803) (by decide +kernel) (by decide +kernel)
theorem ml_L_160 : Cond.methodLink RL 160 yL_changed ∈ gT := gT_mem (i := 804) (by decide +kernel) (by decide +kernel)
theorem st_yL_changed : Cond.static yL_changed ∈ gT := gT_mem (i := 805) (by decide +kernel) (by decide +kernel)
theorem cw_yL_changed : Cond.codeWith yL_changed cL_changed 4 (some FieldType.int) [(0, 9, 12, 32)] ∈ gT := gT_mem (i := 806) (by decide +kernel) (by decide +kernel)
theorem ml_L_70 : Cond.methodLink RL 70 yX5_changed ∈ gT := gT_mem (i := 807) (by decide +kernel) (by decide +kernel)
theorem im_yX5_changed : Cond.instanceMethod yX5_changed ∈ gT := gT_mem (i := 808) (by decide +kernel) (by decide +kernel)
theorem se_yX5_changed : Cond.selects RX5 yX5_changed yX5_changed ∈ gT := gT_mem (i := 809) (by decide +kernel) (by decide +kernel)
theorem cd_yX5_changed : Cond.code yX5_changed cX5_changed 2 (some FieldType.int) ∈ gT := gT_mem (i := 810) (by decide +kernel) (by decide +kernel)
theorem ml_X5_234 : Cond.methodLink RX5 234 yX4_otherLineCount ∈ gT := gT_mem (i := 811) (by decide +kernel) (by decide +kernel)
theorem im_yX4_otherLineCount : Cond.instanceMethod yX4_otherLineCount ∈ gT := gT_mem (i := 812) (by decide +kernel) (by decide +kernel)
theorem se_yX4_otherLineCount : Cond.selects RX4 yX4_otherLineCount yX4_otherLineCount ∈ gT := gT_mem (i := 813) (by decide +kernel) (by decide +kernel)
theorem cd_yX4_otherLineCount : Cond.code yX4_otherLineCount cX4_otherLineCount 3 (some FieldType.int) ∈ gT := gT_mem (i := 814) (by decide +kernel) (by decide +kernel)
theorem ml_X4_104 : Cond.methodLink RX4 104 yJ9_max_7cf53 ∈ gT := gT_mem (i := 815) (by decide +kernel) (by decide +kernel)
theorem st_yJ9_max_7cf53 : Cond.static yJ9_max_7cf53 ∈ gT := gT_mem (i := 816) (by decide +kernel) (by decide +kernel)
theorem cd_yJ9_max_7cf53 : Cond.code yJ9_max_7cf53 cJ9_max_7cf53 2 (some FieldType.int) ∈ gT := gT_mem (i := 817) (by decide +kernel) (by decide +kernel)
theorem ml_X4_109 : Cond.methodLink RX4 109 yX4_isOther ∈ gT := gT_mem (i := 818) (by decide +kernel) (by decide +kernel)
theorem ml_L_163 : Cond.methodLink RL 163 yL_setBearing ∈ gT := gT_mem (i := 819) (by decide +kernel) (by decide +kernel)
theorem st_yL_setBearing : Cond.static yL_setBearing ∈ gT := gT_mem (i := 820) (by decide +kernel) (by decide +kernel)
theorem cw_yL_setBearing : Cond.codeWith yL_setBearing cL_setBearing 4 (some FieldType.int) [(0, 9, 12, 13)] ∈ gT := gT_mem (i := 821) (by decide +kernel) (by decide +kernel)
theorem ml_L_73 : Cond.methodLink RL 73 yX5_setBearing ∈ gT := gT_mem (i := 822) (by decide +kernel) (by decide +kernel)
theorem im_yX5_setBearing : Cond.instanceMethod yX5_setBearing ∈ gT := gT_mem (i := 823) (by decide +kernel) (by decide +kernel)
theorem se_yX5_setBearing : Cond.selects RX5 yX5_setBearing yX5_setBearing ∈ gT := gT_mem (i := 824) (by decide +kernel) (by decide +kernel)
theorem cd_yX5_setBearing : Cond.code yX5_setBearing cX5_setBearing 2 (some FieldType.int) ∈ gT := gT_mem (i := 825) (by decide +kernel) (by decide +kernel)
theorem ml_X5_239 : Cond.methodLink RX5 239 yX0_changeBearing ∈ gT := gT_mem (i := 827) (by decide +kernel) (by decide +kernel)
theorem im_yX0_changeBearing : Cond.instanceMethod yX0_changeBearing ∈ gT := gT_mem (i := 828) (by decide +kernel) (by decide +kernel)
theorem se_yX0_changeBearing : Cond.selects RX0 yX0_changeBearing yX0_changeBearing ∈ gT := gT_mem (i := 829) (by decide +kernel) (by decide +kernel)
theorem cd_yX0_changeBearing : Cond.code yX0_changeBearing cX0_changeBearing 3 (some FieldType.int) ∈ gT := gT_mem (i := 830) (by decide +kernel) (by decide +kernel)
theorem ml_L_166 : Cond.methodLink RL 166 yL_replace ∈ gT := gT_mem (i := 831) (by decide +kernel) (by decide +kernel)
theorem st_yL_replace : Cond.static yL_replace ∈ gT := gT_mem (i := 832) (by decide +kernel) (by decide +kernel)
theorem cw_yL_replace : Cond.codeWith yL_replace cL_replace 4 (some FieldType.int) [(0, 9, 12, 32)] ∈ gT := gT_mem (i := 833) (by decide +kernel) (by decide +kernel)
theorem ml_L_76 : Cond.methodLink RL 76 yX5_replace ∈ gT := gT_mem (i := 834) (by decide +kernel) (by decide +kernel)
theorem im_yX5_replace : Cond.instanceMethod yX5_replace ∈ gT := gT_mem (i := 835) (by decide +kernel) (by decide +kernel)
theorem se_yX5_replace : Cond.selects RX5 yX5_replace yX5_replace ∈ gT := gT_mem (i := 836) (by decide +kernel) (by decide +kernel)
theorem cd_yX5_replace : Cond.code yX5_replace cX5_replace 2 (some FieldType.int) ∈ gT := gT_mem (i := 837) (by decide +kernel) (by decide +kernel)
theorem ml_X5_244 : Cond.methodLink RX5 244 yX0_renewPin ∈ gT := gT_mem (i := 839) (by decide +kernel) (by decide +kernel)
theorem im_yX0_renewPin : Cond.instanceMethod yX0_renewPin ∈ gT := gT_mem (i := 840) (by decide +kernel) (by decide +kernel)
theorem se_yX0_renewPin : Cond.selects RX0 yX0_renewPin yX0_renewPin ∈ gT := gT_mem (i := 841) (by decide +kernel) (by decide +kernel)
theorem cd_yX0_renewPin : Cond.code yX0_renewPin cX0_renewPin 3 (some FieldType.int) ∈ gT := gT_mem (i := 842) (by decide +kernel) (by decide +kernel)
theorem ml_X0_34 : Cond.methodLink RX0 34 yX0_wearOf ∈ gT := gT_mem (i := 843) (by decide +kernel) (by decide +kernel)
theorem im_yX0_wearOf : Cond.instanceMethod yX0_wearOf ∈ gT := gT_mem (i := 844) (by decide +kernel) (by decide +kernel)
theorem se_yX0_wearOf : Cond.selects RX0 yX0_wearOf yX0_wearOf ∈ gT := gT_mem (i := 845) (by decide +kernel) (by decide +kernel)
theorem cd_yX0_wearOf : Cond.code yX0_wearOf cX0_wearOf 2 (some FieldType.int) ∈ gT := gT_mem (i := 846) (by decide +kernel) (by decide +kernel)
theorem ml_L_169 : Cond.methodLink RL 169 yL_strikes ∈ gT := gT_mem (i := 847) (by decide +kernel) (by decide +kernel)
theorem st_yL_strikes : Cond.static yL_strikes ∈ gT := gT_mem (i := 848) (by decide +kernel) (by decide +kernel)
theorem cw_yL_strikes : Cond.codeWith yL_strikes cL_strikes 4 (some FieldType.int) [(0, 9, 12, 32)] ∈ gT := gT_mem (i := 849) (by decide +kernel) (by decide +kernel)
theorem ml_L_79 : Cond.methodLink RL 79 yX5_strikes ∈ gT := gT_mem (i := 850) (by decide +kernel) (by decide +kernel)
theorem im_yX5_strikes : Cond.instanceMethod yX5_strikes ∈ gT := gT_mem (i := 851) (by decide +kernel) (by decide +kernel)
theorem se_yX5_strikes : Cond.selects RX5 yX5_strikes yX5_strikes ∈ gT := gT_mem (i := 852) (by decide +kernel) (by decide +kernel)
theorem cd_yX5_strikes : Cond.code yX5_strikes cX5_strikes 2 (some FieldType.int) ∈ gT := gT_mem (i := 853) (by decide +kernel) (by decide +kernel)
theorem ml_X5_247 : Cond.methodLink RX5 247 yX0_wearOf ∈ gT := gT_mem (i := 854) (by decide +kernel) (by decide +kernel)
theorem ml_L_172 : Cond.methodLink RL 172 yL_mark ∈ gT := gT_mem (i := 855) (by decide +kernel) (by decide +kernel)
theorem st_yL_mark : Cond.static yL_mark ∈ gT := gT_mem (i := 856) (by decide +kernel) (by decide +kernel)
theorem cw_yL_mark : Cond.codeWith yL_mark cL_mark 7 (some FieldType.int) [(0, 21, 24, 32)] ∈ gT := gT_mem (i := 857) (by decide +kernel) (by decide +kernel)
theorem ml_L_82 : Cond.methodLink RL 82 yX5_mark ∈ gT := gT_mem (i := 858) (by decide +kernel) (by decide +kernel)
theorem im_yX5_mark : Cond.instanceMethod yX5_mark ∈ gT := gT_mem (i := 859) (by decide +kernel) (by decide +kernel)
theorem se_yX5_mark : Cond.selects RX5 yX5_mark yX5_mark ∈ gT := gT_mem (i := 860) (by decide +kernel) (by decide +kernel)
theorem cd_yX5_mark : Cond.code yX5_mark cX5_mark 7 (some FieldType.boolean) ∈ gT := gT_mem (i := 861) (by decide +kernel) (by decide +kernel)
theorem ml_X5_250 : Cond.methodLink RX5 250 yX5_isReader ∈ gT := gT_mem (i := 862) (by decide +kernel) (by decide +kernel)
theorem st_yX5_isReader : Cond.static yX5_isReader ∈ gT := gT_mem (i := 863) (by decide +kernel) (by decide +kernel)
theorem cd_yX5_isReader : Cond.code yX5_isReader cX5_isReader 1 (some FieldType.boolean) ∈ gT := gT_mem (i := 864) (by decide +kernel) (by decide +kernel)
theorem ml_X5_255 : Cond.methodLink RX5 255 yX4_putMark ∈ gT := gT_mem (i := 866) (by decide +kernel) (by decide +kernel)
theorem ml_X5_259 : Cond.methodLink RX5 259 yX4_markBy ∈ gT := gT_mem (i := 867) (by decide +kernel) (by decide +kernel)
theorem im_yX4_markBy : Cond.instanceMethod yX4_markBy ∈ gT := gT_mem (i := 868) (by decide +kernel) (by decide +kernel)
theorem se_yX4_markBy : Cond.selects RX4 yX4_markBy yX4_markBy ∈ gT := gT_mem (i := 869) (by decide +kernel) (by decide +kernel)
theorem cd_yX4_markBy : Cond.code yX4_markBy cX4_markBy 3 (some FieldType.char) ∈ gT := gT_mem (i := 870) (by decide +kernel) (by decide +kernel)
theorem ml_L_176 : Cond.methodLink RL 176 yL_markOf ∈ gT := gT_mem (i := 871) (by decide +kernel) (by decide +kernel)
theorem st_yL_markOf : Cond.static yL_markOf ∈ gT := gT_mem (i := 872) (by decide +kernel) (by decide +kernel)
theorem cw_yL_markOf : Cond.codeWith yL_markOf cL_markOf 6 (some FieldType.int) [(0, 12, 15, 32)] ∈ gT := gT_mem (i := 873) (by decide +kernel) (by decide +kernel)
theorem ml_L_86 : Cond.methodLink RL 86 yX5_markOf ∈ gT := gT_mem (i := 874) (by decide +kernel) (by decide +kernel)
theorem im_yX5_markOf : Cond.instanceMethod yX5_markOf ∈ gT := gT_mem (i := 875) (by decide +kernel) (by decide +kernel)
theorem se_yX5_markOf : Cond.selects RX5 yX5_markOf yX5_markOf ∈ gT := gT_mem (i := 876) (by decide +kernel) (by decide +kernel)
theorem cd_yX5_markOf : Cond.code yX5_markOf cX5_markOf 4 (some FieldType.char) ∈ gT := gT_mem (i := 877) (by decide +kernel) (by decide +kernel)
theorem ml_L_184 : Cond.methodLink RL 184 yL_provedShare ∈ gT := gT_mem (i := 878) (by decide +kernel) (by decide +kernel)
theorem st_yL_provedShare : Cond.static yL_provedShare ∈ gT := gT_mem (i := 879) (by decide +kernel) (by decide +kernel)
theorem cw_yL_provedShare : Cond.codeWith yL_provedShare cL_provedShare 3 (some FieldType.int) [(0, 8, 11, 94)] ∈ gT := gT_mem (i := 880) (by decide +kernel) (by decide +kernel)
theorem cl_L_94 : Cond.classLink RL 94 "java/lang/ArithmeticException" ∈ gT := gT_mem (i := 881) (by decide +kernel) (by decide +kernel)
theorem ml_L_90 : Cond.methodLink RL 90 yX5_provedShare ∈ gT := gT_mem (i := 895) (by decide +kernel) (by decide +kernel)
theorem im_yX5_provedShare : Cond.instanceMethod yX5_provedShare ∈ gT := gT_mem (i := 896) (by decide +kernel) (by decide +kernel)
theorem se_yX5_provedShare : Cond.selects RX5 yX5_provedShare yX5_provedShare ∈ gT := gT_mem (i := 897) (by decide +kernel) (by decide +kernel)
theorem cd_yX5_provedShare : Cond.code yX5_provedShare cX5_provedShare 7 (some FieldType.float) ∈ gT := gT_mem (i := 898) (by decide +kernel) (by decide +kernel)
theorem ml_X5_267 : Cond.methodLink RX5 267 yX4_provedCount ∈ gT := gT_mem (i := 899) (by decide +kernel) (by decide +kernel)
theorem im_yX4_provedCount : Cond.instanceMethod yX4_provedCount ∈ gT := gT_mem (i := 900) (by decide +kernel) (by decide +kernel)
theorem se_yX4_provedCount : Cond.selects RX4 yX4_provedCount yX4_provedCount ∈ gT := gT_mem (i := 901) (by decide +kernel) (by decide +kernel)
theorem cd_yX4_provedCount : Cond.code yX4_provedCount cX4_provedCount 3 (some FieldType.int) ∈ gT := gT_mem (i := 902) (by decide +kernel) (by decide +kernel)
theorem ml_X4_120 : Cond.methodLink RX4 120 yX4_markBy ∈ gT := gT_mem (i := 903) (by decide +kernel) (by decide +kernel)
theorem cl_X5_270 : Cond.classLink RX5 270 "java/lang/ArithmeticException" ∈ gT := gT_mem (i := 904) (by decide +kernel) (by decide +kernel)
theorem ml_X5_274 : Cond.methodLink RX5 274 ⟨"java/lang/ArithmeticException", "<init>", "(Ljava/lang/String;)V"⟩ ∈ gT := gT_mem (i := 906) (by decide +kernel) (by decide +kernel)
theorem cl_L_97 : Cond.classLink RL 97 RX6 ∈ gT := gT_mem (i := 907) (by decide +kernel) (by decide +kernel)
theorem ins_X6 : Cond.instantiable RX6 28 ∈ gT := gT_mem (i := 908) (by decide +kernel) (by decide +kernel)
theorem ml_L_99 : Cond.methodLink RL 99 yX6_init ∈ gT := gT_mem (i := 909) (by decide +kernel) (by decide +kernel)
theorem im_yX6_init : Cond.instanceMethod yX6_init ∈ gT := gT_mem (i := 910) (by decide +kernel) (by decide +kernel)
theorem cd_yX6_init : Cond.code yX6_init cX6_init 1 none ∈ gT := gT_mem (i := 911) (by decide +kernel) (by decide +kernel)
theorem ml_X6_1 : Cond.methodLink RX6 1 ⟨"java/lang/Object", "<init>", "()V"⟩ ∈ gT := gT_mem (i := 912) (by decide +kernel) (by decide +kernel)
theorem fl_X6_74 : Cond.fieldLink RX6 74 "DotpressModel" "thrown" "I" ∈ gT := gT_mem (i := 913) (by decide +kernel) (by decide +kernel)
theorem fl_X6_7 : Cond.fieldLink RX6 7 "DotpressModel" "buffer" "[I" ∈ gT := gT_mem (i := 914) (by decide +kernel) (by decide +kernel)
theorem fl_X6_81 : Cond.fieldLink RX6 81 "DotpressModel" "typed" "I" ∈ gT := gT_mem (i := 915) (by decide +kernel) (by decide +kernel)
theorem fl_X6_13 : Cond.fieldLink RX6 13 "DotpressModel" "letters" "[I" ∈ gT := gT_mem (i := 916) (by decide +kernel) (by decide +kernel)
theorem fl_X6_16 : Cond.fieldLink RX6 16 "DotpressModel" "grade" "[I" ∈ gT := gT_mem (i := 917) (by decide +kernel) (by decide +kernel)
theorem fl_X6_19 : Cond.fieldLink RX6 19 "DotpressModel" "first" "[I" ∈ gT := gT_mem (i := 918) (by decide +kernel) (by decide +kernel)
theorem fl_X6_22 : Cond.fieldLink RX6 22 "DotpressModel" "second" "[I" ∈ gT := gT_mem (i := 919) (by decide +kernel) (by decide +kernel)
theorem fl_X6_100 : Cond.fieldLink RX6 100 "DotpressModel" "rules" "I" ∈ gT := gT_mem (i := 920) (by decide +kernel) (by decide +kernel)
theorem fl_X6_25 : Cond.fieldLink RX6 25 "DotpressModel" "exception" "[I" ∈ gT := gT_mem (i := 921) (by decide +kernel) (by decide +kernel)
theorem fl_X6_28 : Cond.fieldLink RX6 28 "DotpressModel" "exceptionLength" "[I" ∈ gT := gT_mem (i := 922) (by decide +kernel) (by decide +kernel)
theorem fl_X6_130 : Cond.fieldLink RX6 130 "DotpressModel" "exceptions" "I" ∈ gT := gT_mem (i := 923) (by decide +kernel) (by decide +kernel)
theorem fl_X6_31 : Cond.fieldLink RX6 31 "DotpressModel" "text" "[I" ∈ gT := gT_mem (i := 924) (by decide +kernel) (by decide +kernel)
theorem fl_X6_34 : Cond.fieldLink RX6 34 "DotpressModel" "textLength" "[I" ∈ gT := gT_mem (i := 925) (by decide +kernel) (by decide +kernel)
theorem fl_X6_37 : Cond.fieldLink RX6 37 "DotpressModel" "textGrade" "[I" ∈ gT := gT_mem (i := 926) (by decide +kernel) (by decide +kernel)
theorem fl_X6_162 : Cond.fieldLink RX6 162 "DotpressModel" "texts" "I" ∈ gT := gT_mem (i := 927) (by decide +kernel) (by decide +kernel)
theorem fl_X6_40 : Cond.fieldLink RX6 40 "DotpressModel" "width" "I" ∈ gT := gT_mem (i := 928) (by decide +kernel) (by decide +kernel)
theorem fl_X6_44 : Cond.fieldLink RX6 44 "DotpressModel" "embossed" "[I" ∈ gT := gT_mem (i := 929) (by decide +kernel) (by decide +kernel)
theorem fl_X6_47 : Cond.fieldLink RX6 47 "DotpressModel" "embossedLength" "[I" ∈ gT := gT_mem (i := 930) (by decide +kernel) (by decide +kernel)
theorem fl_X6_50 : Cond.fieldLink RX6 50 "DotpressModel" "embossedLines" "[I" ∈ gT := gT_mem (i := 931) (by decide +kernel) (by decide +kernel)
theorem fl_X6_53 : Cond.fieldLink RX6 53 "DotpressModel" "marks" "[I" ∈ gT := gT_mem (i := 932) (by decide +kernel) (by decide +kernel)
theorem fl_X6_56 : Cond.fieldLink RX6 56 "DotpressModel" "bears" "I" ∈ gT := gT_mem (i := 933) (by decide +kernel) (by decide +kernel)
theorem fl_X6_59 : Cond.fieldLink RX6 59 "DotpressModel" "strikes" "[I" ∈ gT := gT_mem (i := 934) (by decide +kernel) (by decide +kernel)
theorem fl_X6_62 : Cond.fieldLink RX6 62 "DotpressModel" "word" "[I" ∈ gT := gT_mem (i := 935) (by decide +kernel) (by decide +kernel)
theorem fl_X6_155 : Cond.fieldLink RX6 155 "DotpressModel" "wordCells" "I" ∈ gT := gT_mem (i := 936) (by decide +kernel) (by decide +kernel)
theorem fl_X6_65 : Cond.fieldLink RX6 65 "DotpressModel" "before" "[I" ∈ gT := gT_mem (i := 937) (by decide +kernel) (by decide +kernel)
theorem fl_X6_68 : Cond.fieldLink RX6 68 "DotpressModel" "line" "[I" ∈ gT := gT_mem (i := 938) (by decide +kernel) (by decide +kernel)
theorem fl_X6_71 : Cond.fieldLink RX6 71 "DotpressModel" "lineLength" "[I" ∈ gT := gT_mem (i := 939) (by decide +kernel) (by decide +kernel)
theorem fl_X6_177 : Cond.fieldLink RX6 177 "DotpressModel" "lines" "I" ∈ gT := gT_mem (i := 940) (by decide +kernel) (by decide +kernel)
theorem ml_L_106 : Cond.methodLink RL 106 yX6_thrown ∈ gT := gT_mem (i := 998) (by decide +kernel) (by decide +kernel)
theorem im_yX6_thrown : Cond.instanceMethod yX6_thrown ∈ gT := gT_mem (i := 999) (by decide +kernel) (by decide +kernel)
theorem se_yX6_thrown : Cond.selects RX6 yX6_thrown yX6_thrown ∈ gT := gT_mem (i := 1000) (by decide +kernel) (by decide +kernel)
theorem cd_yX6_thrown : Cond.code yX6_thrown cX6_thrown 1 (some FieldType.int) ∈ gT := gT_mem (i := 1001) (by decide +kernel) (by decide +kernel)
theorem ml_L_105 : Cond.methodLink RL 105 yX6_type ∈ gT := gT_mem (i := 1002) (by decide +kernel) (by decide +kernel)
theorem im_yX6_type : Cond.instanceMethod yX6_type ∈ gT := gT_mem (i := 1003) (by decide +kernel) (by decide +kernel)
theorem se_yX6_type : Cond.selects RX6 yX6_type yX6_type ∈ gT := gT_mem (i := 1004) (by decide +kernel) (by decide +kernel)
theorem cd_yX6_type : Cond.code yX6_type cX6_type 3 (some FieldType.int) ∈ gT := gT_mem (i := 1005) (by decide +kernel) (by decide +kernel)
theorem ml_X6_77 : Cond.methodLink RX6 77 yX6_in ∈ gT := gT_mem (i := 1006) (by decide +kernel) (by decide +kernel)
theorem st_yX6_in : Cond.static yX6_in ∈ gT := gT_mem (i := 1007) (by decide +kernel) (by decide +kernel)
theorem cd_yX6_in : Cond.code yX6_in cX6_in 3 (some FieldType.boolean) ∈ gT := gT_mem (i := 1008) (by decide +kernel) (by decide +kernel)
theorem ml_X6_84 : Cond.methodLink RX6 84 yX6_goesOn ∈ gT := gT_mem (i := 1009) (by decide +kernel) (by decide +kernel)
theorem im_yX6_goesOn : Cond.instanceMethod yX6_goesOn ∈ gT := gT_mem (i := 1011) (by decide +kernel) (by decide +kernel)
theorem cd_yX6_goesOn : Cond.code yX6_goesOn cX6_goesOn 2 (some FieldType.boolean) ∈ gT := gT_mem (i := 1012) (by decide +kernel) (by decide +kernel)
theorem ml_L_113 : Cond.methodLink RL 113 yX6_clear ∈ gT := gT_mem (i := 1013) (by decide +kernel) (by decide +kernel)
theorem im_yX6_clear : Cond.instanceMethod yX6_clear ∈ gT := gT_mem (i := 1014) (by decide +kernel) (by decide +kernel)
theorem se_yX6_clear : Cond.selects RX6 yX6_clear yX6_clear ∈ gT := gT_mem (i := 1015) (by decide +kernel) (by decide +kernel)
theorem cd_yX6_clear : Cond.code yX6_clear cX6_clear 2 (some FieldType.int) ∈ gT := gT_mem (i := 1016) (by decide +kernel) (by decide +kernel)
theorem ml_L_117 : Cond.methodLink RL 117 yX6_addRule ∈ gT := gT_mem (i := 1017) (by decide +kernel) (by decide +kernel)
theorem im_yX6_addRule : Cond.instanceMethod yX6_addRule ∈ gT := gT_mem (i := 1018) (by decide +kernel) (by decide +kernel)
theorem se_yX6_addRule : Cond.selects RX6 yX6_addRule yX6_addRule ∈ gT := gT_mem (i := 1019) (by decide +kernel) (by decide +kernel)
theorem cd_yX6_addRule : Cond.code yX6_addRule cX6_addRule 8 (some FieldType.int) ∈ gT := gT_mem (i := 1020) (by decide +kernel) (by decide +kernel)
theorem ml_X6_103 : Cond.methodLink RX6 103 yX6_ruleLetters ∈ gT := gT_mem (i := 1021) (by decide +kernel) (by decide +kernel)
theorem im_yX6_ruleLetters : Cond.instanceMethod yX6_ruleLetters ∈ gT := gT_mem (i := 1023) (by decide +kernel) (by decide +kernel)
theorem cd_yX6_ruleLetters : Cond.code yX6_ruleLetters cX6_ruleLetters 3 (some FieldType.int) ∈ gT := gT_mem (i := 1024) (by decide +kernel) (by decide +kernel)
theorem ml_X6_88 : Cond.methodLink RX6 88 yX6_hasBlank ∈ gT := gT_mem (i := 1025) (by decide +kernel) (by decide +kernel)
theorem im_yX6_hasBlank : Cond.instanceMethod yX6_hasBlank ∈ gT := gT_mem (i := 1027) (by decide +kernel) (by decide +kernel)
theorem cd_yX6_hasBlank : Cond.code yX6_hasBlank cX6_hasBlank 3 (some FieldType.boolean) ∈ gT := gT_mem (i := 1028) (by decide +kernel) (by decide +kernel)
theorem ml_X6_107 : Cond.methodLink RX6 107 yX6_areFine ∈ gT := gT_mem (i := 1029) (by decide +kernel) (by decide +kernel)
theorem st_yX6_areFine : Cond.static yX6_areFine ∈ gT := gT_mem (i := 1030) (by decide +kernel) (by decide +kernel)
theorem cd_yX6_areFine : Cond.code yX6_areFine cX6_areFine 3 (some FieldType.boolean) ∈ gT := gT_mem (i := 1031) (by decide +kernel) (by decide +kernel)
theorem ml_X6_110 : Cond.methodLink RX6 110 yX6_ruleOf ∈ gT := gT_mem (i := 1032) (by decide +kernel) (by decide +kernel)
theorem im_yX6_ruleOf : Cond.instanceMethod yX6_ruleOf ∈ gT := gT_mem (i := 1034) (by decide +kernel) (by decide +kernel)
theorem cd_yX6_ruleOf : Cond.code yX6_ruleOf cX6_ruleOf 4 (some FieldType.int) ∈ gT := gT_mem (i := 1035) (by decide +kernel) (by decide +kernel)
theorem ml_X6_113 : Cond.methodLink RX6 113 yX6_keepsCells ∈ gT := gT_mem (i := 1036) (by decide +kernel) (by decide +kernel)
theorem im_yX6_keepsCells : Cond.instanceMethod yX6_keepsCells ∈ gT := gT_mem (i := 1038) (by decide +kernel) (by decide +kernel)
theorem cd_yX6_keepsCells : Cond.code yX6_keepsCells cX6_keepsCells 6 none ∈ gT := gT_mem (i := 1039) (by decide +kernel) (by decide +kernel)
theorem ml_X6_165 : Cond.methodLink RX6 165 yX6_wordsOf ∈ gT := gT_mem (i := 1040) (by decide +kernel) (by decide +kernel)
theorem im_yX6_wordsOf : Cond.instanceMethod yX6_wordsOf ∈ gT := gT_mem (i := 1042) (by decide +kernel) (by decide +kernel)
theorem cd_yX6_wordsOf : Cond.code yX6_wordsOf cX6_wordsOf 4 (some FieldType.int) ∈ gT := gT_mem (i := 1043) (by decide +kernel) (by decide +kernel)
theorem ml_X6_139 : Cond.methodLink RX6 139 yX6_isBegin ∈ gT := gT_mem (i := 1044) (by decide +kernel) (by decide +kernel)
theorem im_yX6_isBegin : Cond.instanceMethod yX6_isBegin ∈ gT := gT_mem (i := 1046) (by decide +kernel) (by decide +kernel)
theorem cd_yX6_isBegin : Cond.code yX6_isBegin cX6_isBegin 4 (some FieldType.boolean) ∈ gT := gT_mem (i := 1047) (by decide +kernel) (by decide +kernel)
theorem ml_X6_168 : Cond.methodLink RX6 168 yX6_translates ∈ gT := gT_mem (i := 1048) (by decide +kernel) (by decide +kernel)
theorem im_yX6_translates : Cond.instanceMethod yX6_translates ∈ gT := gT_mem (i := 1050) (by decide +kernel) (by decide +kernel)
theorem cd_yX6_translates : Cond.code yX6_translates cX6_translates 8 none ∈ gT := gT_mem (i := 1051) (by decide +kernel) (by decide +kernel)
theorem ml_X6_146 : Cond.methodLink RX6 146 yX6_beginOf ∈ gT := gT_mem (i := 1052) (by decide +kernel) (by decide +kernel)
theorem im_yX6_beginOf : Cond.instanceMethod yX6_beginOf ∈ gT := gT_mem (i := 1054) (by decide +kernel) (by decide +kernel)
theorem cd_yX6_beginOf : Cond.code yX6_beginOf cX6_beginOf 5 (some FieldType.int) ∈ gT := gT_mem (i := 1055) (by decide +kernel) (by decide +kernel)
theorem ml_X6_149 : Cond.methodLink RX6 149 yX6_letterCount ∈ gT := gT_mem (i := 1056) (by decide +kernel) (by decide +kernel)
theorem im_yX6_letterCount : Cond.instanceMethod yX6_letterCount ∈ gT := gT_mem (i := 1058) (by decide +kernel) (by decide +kernel)
theorem cd_yX6_letterCount : Cond.code yX6_letterCount cX6_letterCount 5 (some FieldType.int) ∈ gT := gT_mem (i := 1059) (by decide +kernel) (by decide +kernel)
theorem ml_X6_152 : Cond.methodLink RX6 152 yX6_isException ∈ gT := gT_mem (i := 1060) (by decide +kernel) (by decide +kernel)
theorem im_yX6_isException : Cond.instanceMethod yX6_isException ∈ gT := gT_mem (i := 1062) (by decide +kernel) (by decide +kernel)
theorem cd_yX6_isException : Cond.code yX6_isException cX6_isException 5 (some FieldType.boolean) ∈ gT := gT_mem (i := 1063) (by decide +kernel) (by decide +kernel)
theorem ml_X6_133 : Cond.methodLink RX6 133 yX6_isThis ∈ gT := gT_mem (i := 1064) (by decide +kernel) (by decide +kernel)
theorem im_yX6_isThis : Cond.instanceMethod yX6_isThis ∈ gT := gT_mem (i := 1066) (by decide +kernel) (by decide +kernel)
theorem cd_yX6_isThis : Cond.code yX6_isThis cX6_isThis 6 (some FieldType.boolean) ∈ gT := gT_mem (i := 1067) (by decide +kernel) (by decide +kernel)
theorem ml_X6_158 : Cond.methodLink RX6 158 yX6_longest ∈ gT := gT_mem (i := 1068) (by decide +kernel) (by decide +kernel)
theorem im_yX6_longest : Cond.instanceMethod yX6_longest ∈ gT := gT_mem (i := 1070) (by decide +kernel) (by decide +kernel)
theorem cd_yX6_longest : Cond.code yX6_longest cX6_longest 8 (some FieldType.int) ∈ gT := gT_mem (i := 1071) (by decide +kernel) (by decide +kernel)
theorem ml_X6_127 : Cond.methodLink RX6 127 yX6_lengthOf ∈ gT := gT_mem (i := 1072) (by decide +kernel) (by decide +kernel)
theorem im_yX6_lengthOf : Cond.instanceMethod yX6_lengthOf ∈ gT := gT_mem (i := 1074) (by decide +kernel) (by decide +kernel)
theorem cd_yX6_lengthOf : Cond.code yX6_lengthOf cX6_lengthOf 4 (some FieldType.int) ∈ gT := gT_mem (i := 1075) (by decide +kernel) (by decide +kernel)
theorem ml_X6_96 : Cond.methodLink RX6 96 yX6_letterOf ∈ gT := gT_mem (i := 1076) (by decide +kernel) (by decide +kernel)
theorem im_yX6_letterOf : Cond.instanceMethod yX6_letterOf ∈ gT := gT_mem (i := 1078) (by decide +kernel) (by decide +kernel)
theorem cd_yX6_letterOf : Cond.code yX6_letterOf cX6_letterOf 3 (some FieldType.int) ∈ gT := gT_mem (i := 1079) (by decide +kernel) (by decide +kernel)
theorem ml_X6_92 : Cond.methodLink RX6 92 yX6_power ∈ gT := gT_mem (i := 1080) (by decide +kernel) (by decide +kernel)
theorem st_yX6_power : Cond.static yX6_power ∈ gT := gT_mem (i := 1081) (by decide +kernel) (by decide +kernel)
theorem cd_yX6_power : Cond.code yX6_power cX6_power 1 (some FieldType.int) ∈ gT := gT_mem (i := 1082) (by decide +kernel) (by decide +kernel)
theorem ml_X6_143 : Cond.methodLink RX6 143 yX6_stands ∈ gT := gT_mem (i := 1083) (by decide +kernel) (by decide +kernel)
theorem im_yX6_stands : Cond.instanceMethod yX6_stands ∈ gT := gT_mem (i := 1085) (by decide +kernel) (by decide +kernel)
theorem cd_yX6_stands : Cond.code yX6_stands cX6_stands 7 (some FieldType.boolean) ∈ gT := gT_mem (i := 1086) (by decide +kernel) (by decide +kernel)
theorem ml_X6_116 : Cond.methodLink RX6 116 yX6_moves ∈ gT := gT_mem (i := 1087) (by decide +kernel) (by decide +kernel)
theorem im_yX6_moves : Cond.instanceMethod yX6_moves ∈ gT := gT_mem (i := 1089) (by decide +kernel) (by decide +kernel)
theorem cd_yX6_moves : Cond.code yX6_moves cX6_moves 3 none ∈ gT := gT_mem (i := 1090) (by decide +kernel) (by decide +kernel)
theorem ml_X6_120 : Cond.methodLink RX6 120 yX6_puts ∈ gT := gT_mem (i := 1091) (by decide +kernel) (by decide +kernel)
theorem im_yX6_puts : Cond.instanceMethod yX6_puts ∈ gT := gT_mem (i := 1093) (by decide +kernel) (by decide +kernel)
theorem cd_yX6_puts : Cond.code yX6_puts cX6_puts 6 none ∈ gT := gT_mem (i := 1094) (by decide +kernel) (by decide +kernel)
theorem ml_X6_124 : Cond.methodLink RX6 124 yX6_textsChanged ∈ gT := gT_mem (i := 1095) (by decide +kernel) (by decide +kernel)
theorem im_yX6_textsChanged : Cond.instanceMethod yX6_textsChanged ∈ gT := gT_mem (i := 1097) (by decide +kernel) (by decide +kernel)
theorem cd_yX6_textsChanged : Cond.code yX6_textsChanged cX6_textsChanged 10 (some FieldType.int) ∈ gT := gT_mem (i := 1098) (by decide +kernel) (by decide +kernel)
theorem ml_L_120 : Cond.methodLink RL 120 yX6_mend ∈ gT := gT_mem (i := 1099) (by decide +kernel) (by decide +kernel)
theorem im_yX6_mend : Cond.instanceMethod yX6_mend ∈ gT := gT_mem (i := 1100) (by decide +kernel) (by decide +kernel)
theorem se_yX6_mend : Cond.selects RX6 yX6_mend yX6_mend ∈ gT := gT_mem (i := 1101) (by decide +kernel) (by decide +kernel)
theorem cd_yX6_mend : Cond.code yX6_mend cX6_mend 6 (some FieldType.int) ∈ gT := gT_mem (i := 1102) (by decide +kernel) (by decide +kernel)
theorem ml_L_124 : Cond.methodLink RL 124 yX6_removeRule ∈ gT := gT_mem (i := 1103) (by decide +kernel) (by decide +kernel)
theorem im_yX6_removeRule : Cond.instanceMethod yX6_removeRule ∈ gT := gT_mem (i := 1104) (by decide +kernel) (by decide +kernel)
theorem se_yX6_removeRule : Cond.selects RX6 yX6_removeRule yX6_removeRule ∈ gT := gT_mem (i := 1105) (by decide +kernel) (by decide +kernel)
theorem cd_yX6_removeRule : Cond.code yX6_removeRule cX6_removeRule 3 (some FieldType.int) ∈ gT := gT_mem (i := 1106) (by decide +kernel) (by decide +kernel)
theorem ml_L_128 : Cond.methodLink RL 128 yX6_ruleAt ∈ gT := gT_mem (i := 1107) (by decide +kernel) (by decide +kernel)
theorem im_yX6_ruleAt : Cond.instanceMethod yX6_ruleAt ∈ gT := gT_mem (i := 1108) (by decide +kernel) (by decide +kernel)
theorem se_yX6_ruleAt : Cond.selects RX6 yX6_ruleAt yX6_ruleAt ∈ gT := gT_mem (i := 1109) (by decide +kernel) (by decide +kernel)
theorem cd_yX6_ruleAt : Cond.code yX6_ruleAt cX6_ruleAt 5 (some FieldType.char) ∈ gT := gT_mem (i := 1110) (by decide +kernel) (by decide +kernel)
theorem ml_L_132 : Cond.methodLink RL 132 yX6_turnException ∈ gT := gT_mem (i := 1111) (by decide +kernel) (by decide +kernel)
theorem im_yX6_turnException : Cond.instanceMethod yX6_turnException ∈ gT := gT_mem (i := 1112) (by decide +kernel) (by decide +kernel)
theorem se_yX6_turnException : Cond.selects RX6 yX6_turnException yX6_turnException ∈ gT := gT_mem (i := 1113) (by decide +kernel) (by decide +kernel)
theorem cd_yX6_turnException : Cond.code yX6_turnException cX6_turnException 4 (some FieldType.boolean) ∈ gT := gT_mem (i := 1114) (by decide +kernel) (by decide +kernel)
theorem ml_X6_136 : Cond.methodLink RX6 136 yX6_exceptionInBuffer ∈ gT := gT_mem (i := 1115) (by decide +kernel) (by decide +kernel)
theorem im_yX6_exceptionInBuffer : Cond.instanceMethod yX6_exceptionInBuffer ∈ gT := gT_mem (i := 1117) (by decide +kernel) (by decide +kernel)
theorem cd_yX6_exceptionInBuffer : Cond.code yX6_exceptionInBuffer cX6_exceptionInBuffer 5 (some FieldType.int) ∈ gT := gT_mem (i := 1118) (by decide +kernel) (by decide +kernel)
theorem ml_L_135 : Cond.methodLink RL 135 yX6_setText ∈ gT := gT_mem (i := 1119) (by decide +kernel) (by decide +kernel)
theorem im_yX6_setText : Cond.instanceMethod yX6_setText ∈ gT := gT_mem (i := 1120) (by decide +kernel) (by decide +kernel)
theorem se_yX6_setText : Cond.selects RX6 yX6_setText yX6_setText ∈ gT := gT_mem (i := 1121) (by decide +kernel) (by decide +kernel)
theorem cd_yX6_setText : Cond.code yX6_setText cX6_setText 5 (some FieldType.int) ∈ gT := gT_mem (i := 1122) (by decide +kernel) (by decide +kernel)
theorem ml_X6_171 : Cond.methodLink RX6 171 yX6_isText ∈ gT := gT_mem (i := 1123) (by decide +kernel) (by decide +kernel)
theorem im_yX6_isText : Cond.instanceMethod yX6_isText ∈ gT := gT_mem (i := 1125) (by decide +kernel) (by decide +kernel)
theorem cd_yX6_isText : Cond.code yX6_isText cX6_isText 2 (some FieldType.boolean) ∈ gT := gT_mem (i := 1126) (by decide +kernel) (by decide +kernel)
theorem ml_L_138 : Cond.methodLink RL 138 yX6_setWidth ∈ gT := gT_mem (i := 1127) (by decide +kernel) (by decide +kernel)
theorem im_yX6_setWidth : Cond.instanceMethod yX6_setWidth ∈ gT := gT_mem (i := 1128) (by decide +kernel) (by decide +kernel)
theorem se_yX6_setWidth : Cond.selects RX6 yX6_setWidth yX6_setWidth ∈ gT := gT_mem (i := 1129) (by decide +kernel) (by decide +kernel)
theorem cd_yX6_setWidth : Cond.code yX6_setWidth cX6_setWidth 3 (some FieldType.int) ∈ gT := gT_mem (i := 1130) (by decide +kernel) (by decide +kernel)
theorem ml_L_141 : Cond.methodLink RL 141 yX6_words ∈ gT := gT_mem (i := 1131) (by decide +kernel) (by decide +kernel)
theorem im_yX6_words : Cond.instanceMethod yX6_words ∈ gT := gT_mem (i := 1132) (by decide +kernel) (by decide +kernel)
theorem se_yX6_words : Cond.selects RX6 yX6_words yX6_words ∈ gT := gT_mem (i := 1133) (by decide +kernel) (by decide +kernel)
theorem cd_yX6_words : Cond.code yX6_words cX6_words 2 (some FieldType.int) ∈ gT := gT_mem (i := 1134) (by decide +kernel) (by decide +kernel)
theorem ml_L_144 : Cond.methodLink RL 144 yX6_length ∈ gT := gT_mem (i := 1135) (by decide +kernel) (by decide +kernel)
theorem im_yX6_length : Cond.instanceMethod yX6_length ∈ gT := gT_mem (i := 1136) (by decide +kernel) (by decide +kernel)
theorem se_yX6_length : Cond.selects RX6 yX6_length yX6_length ∈ gT := gT_mem (i := 1137) (by decide +kernel) (by decide +kernel)
theorem cd_yX6_length : Cond.code yX6_length cX6_length 3 (some FieldType.int) ∈ gT := gT_mem (i := 1138) (by decide +kernel) (by decide +kernel)
theorem ml_X6_174 : Cond.methodLink RX6 174 yX6_isWord ∈ gT := gT_mem (i := 1139) (by decide +kernel) (by decide +kernel)
theorem im_yX6_isWord : Cond.instanceMethod yX6_isWord ∈ gT := gT_mem (i := 1141) (by decide +kernel) (by decide +kernel)
theorem cd_yX6_isWord : Cond.code yX6_isWord cX6_isWord 3 (some FieldType.boolean) ∈ gT := gT_mem (i := 1142) (by decide +kernel) (by decide +kernel)
theorem ml_L_147 : Cond.methodLink RL 147 yX6_cellOf ∈ gT := gT_mem (i := 1143) (by decide +kernel) (by decide +kernel)
theorem im_yX6_cellOf : Cond.instanceMethod yX6_cellOf ∈ gT := gT_mem (i := 1144) (by decide +kernel) (by decide +kernel)
theorem se_yX6_cellOf : Cond.selects RX6 yX6_cellOf yX6_cellOf ∈ gT := gT_mem (i := 1145) (by decide +kernel) (by decide +kernel)
theorem cd_yX6_cellOf : Cond.code yX6_cellOf cX6_cellOf 5 (some FieldType.int) ∈ gT := gT_mem (i := 1146) (by decide +kernel) (by decide +kernel)
theorem ml_L_150 : Cond.methodLink RL 150 yX6_lines ∈ gT := gT_mem (i := 1147) (by decide +kernel) (by decide +kernel)
theorem im_yX6_lines : Cond.instanceMethod yX6_lines ∈ gT := gT_mem (i := 1148) (by decide +kernel) (by decide +kernel)
theorem se_yX6_lines : Cond.selects RX6 yX6_lines yX6_lines ∈ gT := gT_mem (i := 1149) (by decide +kernel) (by decide +kernel)
theorem cd_yX6_lines : Cond.code yX6_lines cX6_lines 3 (some FieldType.int) ∈ gT := gT_mem (i := 1150) (by decide +kernel) (by decide +kernel)
theorem ml_X6_187 : Cond.methodLink RX6 187 yX6_breaks ∈ gT := gT_mem (i := 1151) (by decide +kernel) (by decide +kernel)
theorem im_yX6_breaks : Cond.instanceMethod yX6_breaks ∈ gT := gT_mem (i := 1153) (by decide +kernel) (by decide +kernel)
theorem cd_yX6_breaks : Cond.code yX6_breaks cX6_breaks 8 (some FieldType.int) ∈ gT := gT_mem (i := 1154) (by decide +kernel) (by decide +kernel)
theorem ml_X6_180 : Cond.methodLink RX6 180 yX6_addsCell ∈ gT := gT_mem (i := 1155) (by decide +kernel) (by decide +kernel)
theorem im_yX6_addsCell : Cond.instanceMethod yX6_addsCell ∈ gT := gT_mem (i := 1157) (by decide +kernel) (by decide +kernel)
theorem cd_yX6_addsCell : Cond.code yX6_addsCell cX6_addsCell 2 none ∈ gT := gT_mem (i := 1158) (by decide +kernel) (by decide +kernel)
theorem ml_X6_184 : Cond.methodLink RX6 184 yX6_begins ∈ gT := gT_mem (i := 1159) (by decide +kernel) (by decide +kernel)
theorem im_yX6_begins : Cond.instanceMethod yX6_begins ∈ gT := gT_mem (i := 1161) (by decide +kernel) (by decide +kernel)
theorem cd_yX6_begins : Cond.code yX6_begins cX6_begins 1 none ∈ gT := gT_mem (i := 1162) (by decide +kernel) (by decide +kernel)
theorem ml_L_153 : Cond.methodLink RL 153 yX6_lineAt ∈ gT := gT_mem (i := 1163) (by decide +kernel) (by decide +kernel)
theorem im_yX6_lineAt : Cond.instanceMethod yX6_lineAt ∈ gT := gT_mem (i := 1164) (by decide +kernel) (by decide +kernel)
theorem se_yX6_lineAt : Cond.selects RX6 yX6_lineAt yX6_lineAt ∈ gT := gT_mem (i := 1165) (by decide +kernel) (by decide +kernel)
theorem cd_yX6_lineAt : Cond.code yX6_lineAt cX6_lineAt 7 (some FieldType.int) ∈ gT := gT_mem (i := 1166) (by decide +kernel) (by decide +kernel)
theorem ml_L_156 : Cond.methodLink RL 156 yX6_lineOf ∈ gT := gT_mem (i := 1167) (by decide +kernel) (by decide +kernel)
theorem im_yX6_lineOf : Cond.instanceMethod yX6_lineOf ∈ gT := gT_mem (i := 1168) (by decide +kernel) (by decide +kernel)
theorem se_yX6_lineOf : Cond.selects RX6 yX6_lineOf yX6_lineOf ∈ gT := gT_mem (i := 1169) (by decide +kernel) (by decide +kernel)
theorem cd_yX6_lineOf : Cond.code yX6_lineOf cX6_lineOf 3 (some FieldType.int) ∈ gT := gT_mem (i := 1170) (by decide +kernel) (by decide +kernel)
theorem ml_L_159 : Cond.methodLink RL 159 yX6_emboss ∈ gT := gT_mem (i := 1171) (by decide +kernel) (by decide +kernel)
theorem im_yX6_emboss : Cond.instanceMethod yX6_emboss ∈ gT := gT_mem (i := 1172) (by decide +kernel) (by decide +kernel)
theorem se_yX6_emboss : Cond.selects RX6 yX6_emboss yX6_emboss ∈ gT := gT_mem (i := 1173) (by decide +kernel) (by decide +kernel)
theorem cd_yX6_emboss : Cond.code yX6_emboss cX6_emboss 9 (some FieldType.int) ∈ gT := gT_mem (i := 1174) (by decide +kernel) (by decide +kernel)
theorem ml_X6_196 : Cond.methodLink RX6 196 yX6_isWorn ∈ gT := gT_mem (i := 1175) (by decide +kernel) (by decide +kernel)
theorem im_yX6_isWorn : Cond.instanceMethod yX6_isWorn ∈ gT := gT_mem (i := 1177) (by decide +kernel) (by decide +kernel)
theorem cd_yX6_isWorn : Cond.code yX6_isWorn cX6_isWorn 5 (some FieldType.boolean) ∈ gT := gT_mem (i := 1178) (by decide +kernel) (by decide +kernel)
theorem ml_X6_193 : Cond.methodLink RX6 193 yX6_due ∈ gT := gT_mem (i := 1179) (by decide +kernel) (by decide +kernel)
theorem im_yX6_due : Cond.instanceMethod yX6_due ∈ gT := gT_mem (i := 1181) (by decide +kernel) (by decide +kernel)
theorem cd_yX6_due : Cond.code yX6_due cX6_due 6 (some FieldType.int) ∈ gT := gT_mem (i := 1182) (by decide +kernel) (by decide +kernel)
theorem ml_X6_190 : Cond.methodLink RX6 190 yX6_isEmbossed ∈ gT := gT_mem (i := 1183) (by decide +kernel) (by decide +kernel)
theorem im_yX6_isEmbossed : Cond.instanceMethod yX6_isEmbossed ∈ gT := gT_mem (i := 1185) (by decide +kernel) (by decide +kernel)
theorem cd_yX6_isEmbossed : Cond.code yX6_isEmbossed cX6_isEmbossed 6 (some FieldType.boolean) ∈ gT := gT_mem (i := 1186) (by decide +kernel) (by decide +kernel)
theorem ml_L_162 : Cond.methodLink RL 162 yX6_changed ∈ gT := gT_mem (i := 1187) (by decide +kernel) (by decide +kernel)
theorem im_yX6_changed : Cond.instanceMethod yX6_changed ∈ gT := gT_mem (i := 1188) (by decide +kernel) (by decide +kernel)
theorem se_yX6_changed : Cond.selects RX6 yX6_changed yX6_changed ∈ gT := gT_mem (i := 1189) (by decide +kernel) (by decide +kernel)
theorem cd_yX6_changed : Cond.code yX6_changed cX6_changed 5 (some FieldType.int) ∈ gT := gT_mem (i := 1190) (by decide +kernel) (by decide +kernel)
theorem ml_L_165 : Cond.methodLink RL 165 yX6_setBearing ∈ gT := gT_mem (i := 1191) (by decide +kernel) (by decide +kernel)
theorem im_yX6_setBearing : Cond.instanceMethod yX6_setBearing ∈ gT := gT_mem (i := 1192) (by decide +kernel) (by decide +kernel)
theorem se_yX6_setBearing : Cond.selects RX6 yX6_setBearing yX6_setBearing ∈ gT := gT_mem (i := 1193) (by decide +kernel) (by decide +kernel)
theorem cd_yX6_setBearing : Cond.code yX6_setBearing cX6_setBearing 3 (some FieldType.int) ∈ gT := gT_mem (i := 1194) (by decide +kernel) (by decide +kernel)
theorem ml_L_168 : Cond.methodLink RL 168 yX6_replace ∈ gT := gT_mem (i := 1195) (by decide +kernel) (by decide +kernel)
theorem im_yX6_replace : Cond.instanceMethod yX6_replace ∈ gT := gT_mem (i := 1196) (by decide +kernel) (by decide +kernel)
theorem se_yX6_replace : Cond.selects RX6 yX6_replace yX6_replace ∈ gT := gT_mem (i := 1197) (by decide +kernel) (by decide +kernel)
theorem cd_yX6_replace : Cond.code yX6_replace cX6_replace 3 (some FieldType.int) ∈ gT := gT_mem (i := 1198) (by decide +kernel) (by decide +kernel)
theorem ml_L_171 : Cond.methodLink RL 171 yX6_strikes ∈ gT := gT_mem (i := 1199) (by decide +kernel) (by decide +kernel)
theorem im_yX6_strikes : Cond.instanceMethod yX6_strikes ∈ gT := gT_mem (i := 1200) (by decide +kernel) (by decide +kernel)
theorem se_yX6_strikes : Cond.selects RX6 yX6_strikes yX6_strikes ∈ gT := gT_mem (i := 1201) (by decide +kernel) (by decide +kernel)
theorem cd_yX6_strikes : Cond.code yX6_strikes cX6_strikes 2 (some FieldType.int) ∈ gT := gT_mem (i := 1202) (by decide +kernel) (by decide +kernel)
theorem ml_L_175 : Cond.methodLink RL 175 yX6_mark ∈ gT := gT_mem (i := 1203) (by decide +kernel) (by decide +kernel)
theorem im_yX6_mark : Cond.instanceMethod yX6_mark ∈ gT := gT_mem (i := 1204) (by decide +kernel) (by decide +kernel)
theorem se_yX6_mark : Cond.selects RX6 yX6_mark yX6_mark ∈ gT := gT_mem (i := 1205) (by decide +kernel) (by decide +kernel)
theorem cd_yX6_mark : Cond.code yX6_mark cX6_mark 6 (some FieldType.boolean) ∈ gT := gT_mem (i := 1206) (by decide +kernel) (by decide +kernel)
theorem ml_L_178 : Cond.methodLink RL 178 yX6_markOf ∈ gT := gT_mem (i := 1207) (by decide +kernel) (by decide +kernel)
theorem im_yX6_markOf : Cond.instanceMethod yX6_markOf ∈ gT := gT_mem (i := 1208) (by decide +kernel) (by decide +kernel)
theorem se_yX6_markOf : Cond.selects RX6 yX6_markOf yX6_markOf ∈ gT := gT_mem (i := 1209) (by decide +kernel) (by decide +kernel)
theorem cd_yX6_markOf : Cond.code yX6_markOf cX6_markOf 5 (some FieldType.char) ∈ gT := gT_mem (i := 1210) (by decide +kernel) (by decide +kernel)
theorem ml_L_183 : Cond.methodLink RL 183 yX6_checksum ∈ gT := gT_mem (i := 1211) (by decide +kernel) (by decide +kernel)
theorem im_yX6_checksum : Cond.instanceMethod yX6_checksum ∈ gT := gT_mem (i := 1212) (by decide +kernel) (by decide +kernel)
theorem se_yX6_checksum : Cond.selects RX6 yX6_checksum yX6_checksum ∈ gT := gT_mem (i := 1213) (by decide +kernel) (by decide +kernel)
theorem cd_yX6_checksum : Cond.code yX6_checksum cX6_checksum 7 (some FieldType.long) ∈ gT := gT_mem (i := 1214) (by decide +kernel) (by decide +kernel)
theorem kl_X6_199 : Cond.constantLong RX6 199 31 ∈ gT := gT_mem (i := 1215) (by decide +kernel) (by decide +kernel)
theorem ml_L_187 : Cond.methodLink RL 187 yX6_provedShare ∈ gT := gT_mem (i := 1216) (by decide +kernel) (by decide +kernel)
theorem im_yX6_provedShare : Cond.instanceMethod yX6_provedShare ∈ gT := gT_mem (i := 1217) (by decide +kernel) (by decide +kernel)
theorem se_yX6_provedShare : Cond.selects RX6 yX6_provedShare yX6_provedShare ∈ gT := gT_mem (i := 1218) (by decide +kernel) (by decide +kernel)
theorem cd_yX6_provedShare : Cond.code yX6_provedShare cX6_provedShare 6 (some FieldType.float) ∈ gT := gT_mem (i := 1219) (by decide +kernel) (by decide +kernel)
theorem ml_L_192 : Cond.methodLink RL 192 yX6_meanStrikes ∈ gT := gT_mem (i := 1220) (by decide +kernel) (by decide +kernel)
theorem im_yX6_meanStrikes : Cond.instanceMethod yX6_meanStrikes ∈ gT := gT_mem (i := 1221) (by decide +kernel) (by decide +kernel)
theorem se_yX6_meanStrikes : Cond.selects RX6 yX6_meanStrikes yX6_meanStrikes ∈ gT := gT_mem (i := 1222) (by decide +kernel) (by decide +kernel)
theorem cd_yX6_meanStrikes : Cond.code yX6_meanStrikes cX6_meanStrikes 3 (some FieldType.double) ∈ gT := gT_mem (i := 1223) (by decide +kernel) (by decide +kernel)
theorem kd_X6_201 : Cond.constantDouble RX6 201 4618441417868443648 ∈ gT := gT_mem (i := 1224) (by decide +kernel) (by decide +kernel)
theorem ml_L_196 : Cond.methodLink RL 196 yX6_isSound ∈ gT := gT_mem (i := 1225) (by decide +kernel) (by decide +kernel)
theorem im_yX6_isSound : Cond.instanceMethod yX6_isSound ∈ gT := gT_mem (i := 1226) (by decide +kernel) (by decide +kernel)
theorem se_yX6_isSound : Cond.selects RX6 yX6_isSound yX6_isSound ∈ gT := gT_mem (i := 1227) (by decide +kernel) (by decide +kernel)
theorem cd_yX6_isSound : Cond.code yX6_isSound cX6_isSound 1 (some FieldType.boolean) ∈ gT := gT_mem (i := 1228) (by decide +kernel) (by decide +kernel)
theorem ac_long : Cond.arrayClass .long ∈ gT := gT_mem (i := 1229) (by decide +kernel) (by decide +kernel)
theorem ac_double : Cond.arrayClass .double ∈ gT := gT_mem (i := 1230) (by decide +kernel) (by decide +kernel)
theorem se_yX3_addCells : Cond.selects RX3 yX3_addCells yX3_addCells ∈ gT := gT_mem (i := 3) (by decide +kernel) (by decide +kernel)
theorem se_yX4_beginWord : Cond.selects RX4 yX4_beginWord yX4_beginWord ∈ gT := gT_mem (i := 5) (by decide +kernel) (by decide +kernel)
theorem se_yX4_unmark : Cond.selects RX4 yX4_unmark yX4_unmark ∈ gT := gT_mem (i := 4) (by decide +kernel) (by decide +kernel)
theorem se_yX5_typedKey : Cond.selects RX5 yX5_typedKey yX5_typedKey ∈ gT := gT_mem (i := 1) (by decide +kernel) (by decide +kernel)
theorem se_yX5_textNumbered : Cond.selects RX5 yX5_textNumbered yX5_textNumbered ∈ gT := gT_mem (i := 6) (by decide +kernel) (by decide +kernel)
theorem se_yX5_textWithWord : Cond.selects RX5 yX5_textWithWord yX5_textWithWord ∈ gT := gT_mem (i := 7) (by decide +kernel) (by decide +kernel)
theorem se_yX5_translateTexts : Cond.selects RX5 yX5_translateTexts yX5_translateTexts ∈ gT := gT_mem (i := 2) (by decide +kernel) (by decide +kernel)
theorem se_yX5_planLine : Cond.selects RX5 yX5_planLine yX5_planLine ∈ gT := gT_mem (i := 8) (by decide +kernel) (by decide +kernel)
theorem se_yX6_goesOn : Cond.selects RX6 yX6_goesOn yX6_goesOn ∈ gT := gT_mem (i := 9) (by decide +kernel) (by decide +kernel)
theorem se_yX6_hasBlank : Cond.selects RX6 yX6_hasBlank yX6_hasBlank ∈ gT := gT_mem (i := 11) (by decide +kernel) (by decide +kernel)
theorem se_yX6_ruleLetters : Cond.selects RX6 yX6_ruleLetters yX6_ruleLetters ∈ gT := gT_mem (i := 10) (by decide +kernel) (by decide +kernel)
theorem se_yX6_letterOf : Cond.selects RX6 yX6_letterOf yX6_letterOf ∈ gT := gT_mem (i := 23) (by decide +kernel) (by decide +kernel)
theorem se_yX6_lengthOf : Cond.selects RX6 yX6_lengthOf yX6_lengthOf ∈ gT := gT_mem (i := 22) (by decide +kernel) (by decide +kernel)
theorem se_yX6_ruleOf : Cond.selects RX6 yX6_ruleOf yX6_ruleOf ∈ gT := gT_mem (i := 12) (by decide +kernel) (by decide +kernel)
theorem se_yX6_moves : Cond.selects RX6 yX6_moves yX6_moves ∈ gT := gT_mem (i := 25) (by decide +kernel) (by decide +kernel)
theorem se_yX6_puts : Cond.selects RX6 yX6_puts yX6_puts ∈ gT := gT_mem (i := 26) (by decide +kernel) (by decide +kernel)
theorem se_yX6_isThis : Cond.selects RX6 yX6_isThis yX6_isThis ∈ gT := gT_mem (i := 20) (by decide +kernel) (by decide +kernel)
theorem se_yX6_isException : Cond.selects RX6 yX6_isException yX6_isException ∈ gT := gT_mem (i := 19) (by decide +kernel) (by decide +kernel)
theorem se_yX6_exceptionInBuffer : Cond.selects RX6 yX6_exceptionInBuffer yX6_exceptionInBuffer ∈ gT := gT_mem (i := 28) (by decide +kernel) (by decide +kernel)
theorem se_yX6_isBegin : Cond.selects RX6 yX6_isBegin yX6_isBegin ∈ gT := gT_mem (i := 15) (by decide +kernel) (by decide +kernel)
theorem se_yX6_wordsOf : Cond.selects RX6 yX6_wordsOf yX6_wordsOf ∈ gT := gT_mem (i := 14) (by decide +kernel) (by decide +kernel)
theorem se_yX6_beginOf : Cond.selects RX6 yX6_beginOf yX6_beginOf ∈ gT := gT_mem (i := 17) (by decide +kernel) (by decide +kernel)
theorem se_yX6_letterCount : Cond.selects RX6 yX6_letterCount yX6_letterCount ∈ gT := gT_mem (i := 18) (by decide +kernel) (by decide +kernel)
theorem se_yX6_stands : Cond.selects RX6 yX6_stands yX6_stands ∈ gT := gT_mem (i := 24) (by decide +kernel) (by decide +kernel)
theorem se_yX6_longest : Cond.selects RX6 yX6_longest yX6_longest ∈ gT := gT_mem (i := 21) (by decide +kernel) (by decide +kernel)
theorem se_yX6_translates : Cond.selects RX6 yX6_translates yX6_translates ∈ gT := gT_mem (i := 16) (by decide +kernel) (by decide +kernel)
theorem se_yX6_keepsCells : Cond.selects RX6 yX6_keepsCells yX6_keepsCells ∈ gT := gT_mem (i := 13) (by decide +kernel) (by decide +kernel)
theorem se_yX6_textsChanged : Cond.selects RX6 yX6_textsChanged yX6_textsChanged ∈ gT := gT_mem (i := 27) (by decide +kernel) (by decide +kernel)
theorem se_yX6_isText : Cond.selects RX6 yX6_isText yX6_isText ∈ gT := gT_mem (i := 29) (by decide +kernel) (by decide +kernel)
theorem se_yX6_isWord : Cond.selects RX6 yX6_isWord yX6_isWord ∈ gT := gT_mem (i := 30) (by decide +kernel) (by decide +kernel)
theorem se_yX6_addsCell : Cond.selects RX6 yX6_addsCell yX6_addsCell ∈ gT := gT_mem (i := 32) (by decide +kernel) (by decide +kernel)
theorem se_yX6_begins : Cond.selects RX6 yX6_begins yX6_begins ∈ gT := gT_mem (i := 33) (by decide +kernel) (by decide +kernel)
theorem se_yX6_breaks : Cond.selects RX6 yX6_breaks yX6_breaks ∈ gT := gT_mem (i := 31) (by decide +kernel) (by decide +kernel)
theorem se_yX6_isEmbossed : Cond.selects RX6 yX6_isEmbossed yX6_isEmbossed ∈ gT := gT_mem (i := 36) (by decide +kernel) (by decide +kernel)
theorem se_yX6_due : Cond.selects RX6 yX6_due yX6_due ∈ gT := gT_mem (i := 35) (by decide +kernel) (by decide +kernel)
theorem se_yX6_isWorn : Cond.selects RX6 yX6_isWorn yX6_isWorn ∈ gT := gT_mem (i := 34) (by decide +kernel) (by decide +kernel)
theorem lay_X0 : ∀ w ∈ wsX00, w ∈ gT := by decide +kernel
theorem lay_X1 : ∀ w ∈ wsX10, w ∈ gT := by decide +kernel
theorem lay_X2 : ∀ w ∈ wsX20, w ∈ gT := by decide +kernel
theorem lay_X3 : ∀ w ∈ wsX30, w ∈ gT := by decide +kernel
theorem lay_X4 : ∀ w ∈ wsX40, w ∈ gT := by decide +kernel
theorem lay_X5 : ∀ w ∈ wsX50, w ∈ gT := by decide +kernel
theorem lay_X6 : ∀ w ∈ wsX60, w ∈ gT := by decide +kernel
end
section
theorem dX0_init_0 : decode cX0_init 0 = .ok (.aload_n 0, 1) := by decide +kernel
theorem dX0_init_1 : decode cX0_init 1 = .ok (.invokespecial 3, 3) := by decide +kernel
theorem dX0_init_4 : decode cX0_init 4 = .ok (.aload_n 0, 1) := by decide +kernel
theorem dX0_init_5 : decode cX0_init 5 = .ok (.new 9, 3) := by decide +kernel
theorem dX0_init_8 : decode cX0_init 8 = .ok (.dup, 1) := by decide +kernel
theorem dX0_init_9 : decode cX0_init 9 = .ok (.bipush 6, 2) := by decide +kernel
theorem dX0_init_11 : decode cX0_init 11 = .ok (.invokespecial 11, 3) := by decide +kernel
theorem dX0_init_14 : decode cX0_init 14 = .ok (.putfield 14, 3) := by decide +kernel
theorem dX0_init_17 : decode cX0_init 17 = .ok (.aload_n 0, 1) := by decide +kernel
theorem dX0_init_18 : decode cX0_init 18 = .ok (.new 9, 3) := by decide +kernel
theorem dX0_init_21 : decode cX0_init 21 = .ok (.dup, 1) := by decide +kernel
theorem dX0_init_22 : decode cX0_init 22 = .ok (.bipush 6, 2) := by decide +kernel
theorem dX0_init_24 : decode cX0_init 24 = .ok (.invokespecial 11, 3) := by decide +kernel
theorem dX0_init_27 : decode cX0_init 27 = .ok (.putfield 20, 3) := by decide +kernel
theorem dX0_init_30 : decode cX0_init 30 = .ok (.aload_n 0, 1) := by decide +kernel
theorem dX0_init_31 : decode cX0_init 31 = .ok (.sipush 5000, 3) := by decide +kernel
theorem dX0_init_34 : decode cX0_init 34 = .ok (.putfield 23, 3) := by decide +kernel
theorem dX0_init_37 : decode cX0_init 37 = .ok (.iconst 0, 1) := by decide +kernel
theorem dX0_init_38 : decode cX0_init 38 = .ok (.istore_n 1, 1) := by decide +kernel
theorem dX0_init_39 : decode cX0_init 39 = .ok (.iload_n 1, 1) := by decide +kernel
theorem dX0_init_40 : decode cX0_init 40 = .ok (.bipush 6, 2) := by decide +kernel
theorem dX0_init_42 : decode cX0_init 42 = .ok (.if_icmp .ge 25, 3) := by decide +kernel
theorem dX0_init_45 : decode cX0_init 45 = .ok (.aload_n 0, 1) := by decide +kernel
theorem dX0_init_46 : decode cX0_init 46 = .ok (.getfield 14, 3) := by decide +kernel
theorem dX0_init_49 : decode cX0_init 49 = .ok (.iconst 0, 1) := by decide +kernel
theorem dX0_init_50 : decode cX0_init 50 = .ok (.invokevirtual 27, 3) := by decide +kernel
theorem dX0_init_53 : decode cX0_init 53 = .ok (.aload_n 0, 1) := by decide +kernel
theorem dX0_init_54 : decode cX0_init 54 = .ok (.getfield 20, 3) := by decide +kernel
theorem dX0_init_57 : decode cX0_init 57 = .ok (.iconst 0, 1) := by decide +kernel
theorem dX0_init_58 : decode cX0_init 58 = .ok (.invokevirtual 27, 3) := by decide +kernel
theorem dX0_init_61 : decode cX0_init 61 = .ok (.iinc 1 1, 3) := by decide +kernel
theorem dX0_init_64 : decode cX0_init 64 = .ok (.goto (-25), 3) := by decide +kernel
theorem dX0_init_67 : decode cX0_init 67 = .ok (.return_, 1) := by decide +kernel
theorem dX0_changeBearing_0 : decode cX0_changeBearing 0 = .ok (.aload_n 0, 1) := by decide +kernel
theorem dX0_changeBearing_1 : decode cX0_changeBearing 1 = .ok (.getfield 23, 3) := by decide +kernel
theorem dX0_changeBearing_4 : decode cX0_changeBearing 4 = .ok (.istore_n 2, 1) := by decide +kernel
theorem dX0_changeBearing_5 : decode cX0_changeBearing 5 = .ok (.aload_n 0, 1) := by decide +kernel
theorem dX0_changeBearing_6 : decode cX0_changeBearing 6 = .ok (.iload_n 1, 1) := by decide +kernel
theorem dX0_changeBearing_7 : decode cX0_changeBearing 7 = .ok (.putfield 23, 3) := by decide +kernel
theorem dX0_changeBearing_10 : decode cX0_changeBearing 10 = .ok (.iload_n 2, 1) := by decide +kernel
theorem dX0_changeBearing_11 : decode cX0_changeBearing 11 = .ok (.ireturn, 1) := by decide +kernel
theorem dX0_wearOf_0 : decode cX0_wearOf 0 = .ok (.aload_n 0, 1) := by decide +kernel
theorem dX0_wearOf_1 : decode cX0_wearOf 1 = .ok (.getfield 14, 3) := by decide +kernel
theorem dX0_wearOf_4 : decode cX0_wearOf 4 = .ok (.iload_n 1, 1) := by decide +kernel
theorem dX0_wearOf_5 : decode cX0_wearOf 5 = .ok (.iconst 1, 1) := by decide +kernel
theorem dX0_wearOf_6 : decode cX0_wearOf 6 = .ok (.isub, 1) := by decide +kernel
theorem dX0_wearOf_7 : decode cX0_wearOf 7 = .ok (.invokevirtual 30, 3) := by decide +kernel
theorem dX0_wearOf_10 : decode cX0_wearOf 10 = .ok (.ireturn, 1) := by decide +kernel
theorem dX0_renewPin_0 : decode cX0_renewPin 0 = .ok (.aload_n 0, 1) := by decide +kernel
theorem dX0_renewPin_1 : decode cX0_renewPin 1 = .ok (.iload_n 1, 1) := by decide +kernel
theorem dX0_renewPin_2 : decode cX0_renewPin 2 = .ok (.invokevirtual 34, 3) := by decide +kernel
theorem dX0_renewPin_5 : decode cX0_renewPin 5 = .ok (.istore_n 2, 1) := by decide +kernel
theorem dX0_renewPin_6 : decode cX0_renewPin 6 = .ok (.aload_n 0, 1) := by decide +kernel
theorem dX0_renewPin_7 : decode cX0_renewPin 7 = .ok (.getfield 14, 3) := by decide +kernel
theorem dX0_renewPin_10 : decode cX0_renewPin 10 = .ok (.iload_n 1, 1) := by decide +kernel
theorem dX0_renewPin_11 : decode cX0_renewPin 11 = .ok (.iconst 1, 1) := by decide +kernel
theorem dX0_renewPin_12 : decode cX0_renewPin 12 = .ok (.isub, 1) := by decide +kernel
theorem dX0_renewPin_13 : decode cX0_renewPin 13 = .ok (.iconst 0, 1) := by decide +kernel
theorem dX0_renewPin_14 : decode cX0_renewPin 14 = .ok (.invokevirtual 37, 3) := by decide +kernel
theorem dX0_renewPin_17 : decode cX0_renewPin 17 = .ok (.iload_n 2, 1) := by decide +kernel
theorem dX0_renewPin_18 : decode cX0_renewPin 18 = .ok (.ireturn, 1) := by decide +kernel
theorem dX0_wearOfAll_0 : decode cX0_wearOfAll 0 = .ok (.iconst 0, 1) := by decide +kernel
theorem dX0_wearOfAll_1 : decode cX0_wearOfAll 1 = .ok (.istore_n 1, 1) := by decide +kernel
theorem dX0_wearOfAll_2 : decode cX0_wearOfAll 2 = .ok (.iconst 0, 1) := by decide +kernel
theorem dX0_wearOfAll_3 : decode cX0_wearOfAll 3 = .ok (.istore_n 2, 1) := by decide +kernel
theorem dX0_wearOfAll_4 : decode cX0_wearOfAll 4 = .ok (.iload_n 2, 1) := by decide +kernel
theorem dX0_wearOfAll_5 : decode cX0_wearOfAll 5 = .ok (.bipush 6, 2) := by decide +kernel
theorem dX0_wearOfAll_7 : decode cX0_wearOfAll 7 = .ok (.if_icmp .ge 20, 3) := by decide +kernel
theorem dX0_wearOfAll_10 : decode cX0_wearOfAll 10 = .ok (.iload_n 1, 1) := by decide +kernel
theorem dX0_wearOfAll_11 : decode cX0_wearOfAll 11 = .ok (.aload_n 0, 1) := by decide +kernel
theorem dX0_wearOfAll_12 : decode cX0_wearOfAll 12 = .ok (.getfield 14, 3) := by decide +kernel
theorem dX0_wearOfAll_15 : decode cX0_wearOfAll 15 = .ok (.iload_n 2, 1) := by decide +kernel
theorem dX0_wearOfAll_16 : decode cX0_wearOfAll 16 = .ok (.invokevirtual 30, 3) := by decide +kernel
theorem dX0_wearOfAll_19 : decode cX0_wearOfAll 19 = .ok (.iadd, 1) := by decide +kernel
theorem dX0_wearOfAll_20 : decode cX0_wearOfAll 20 = .ok (.istore_n 1, 1) := by decide +kernel
theorem dX0_wearOfAll_21 : decode cX0_wearOfAll 21 = .ok (.iinc 2 1, 3) := by decide +kernel
theorem dX0_wearOfAll_24 : decode cX0_wearOfAll 24 = .ok (.goto (-20), 3) := by decide +kernel
theorem dX0_wearOfAll_27 : decode cX0_wearOfAll 27 = .ok (.iload_n 1, 1) := by decide +kernel
theorem dX0_wearOfAll_28 : decode cX0_wearOfAll 28 = .ok (.ireturn, 1) := by decide +kernel
theorem dX0_forgetPlan_0 : decode cX0_forgetPlan 0 = .ok (.iconst 0, 1) := by decide +kernel
theorem dX0_forgetPlan_1 : decode cX0_forgetPlan 1 = .ok (.istore_n 1, 1) := by decide +kernel
theorem dX0_forgetPlan_2 : decode cX0_forgetPlan 2 = .ok (.iload_n 1, 1) := by decide +kernel
theorem dX0_forgetPlan_3 : decode cX0_forgetPlan 3 = .ok (.bipush 6, 2) := by decide +kernel
theorem dX0_forgetPlan_5 : decode cX0_forgetPlan 5 = .ok (.if_icmp .ge 18, 3) := by decide +kernel
theorem dX0_forgetPlan_8 : decode cX0_forgetPlan 8 = .ok (.aload_n 0, 1) := by decide +kernel
theorem dX0_forgetPlan_9 : decode cX0_forgetPlan 9 = .ok (.getfield 20, 3) := by decide +kernel
theorem dX0_forgetPlan_12 : decode cX0_forgetPlan 12 = .ok (.iload_n 1, 1) := by decide +kernel
theorem dX0_forgetPlan_13 : decode cX0_forgetPlan 13 = .ok (.iconst 0, 1) := by decide +kernel
theorem dX0_forgetPlan_14 : decode cX0_forgetPlan 14 = .ok (.invokevirtual 37, 3) := by decide +kernel
theorem dX0_forgetPlan_17 : decode cX0_forgetPlan 17 = .ok (.iinc 1 1, 3) := by decide +kernel
theorem dX0_forgetPlan_20 : decode cX0_forgetPlan 20 = .ok (.goto (-18), 3) := by decide +kernel
theorem dX0_forgetPlan_23 : decode cX0_forgetPlan 23 = .ok (.return_, 1) := by decide +kernel
theorem dX0_planCell_0 : decode cX0_planCell 0 = .ok (.iconst 0, 1) := by decide +kernel
theorem dX0_planCell_1 : decode cX0_planCell 1 = .ok (.istore_n 2, 1) := by decide +kernel
theorem dX0_planCell_2 : decode cX0_planCell 2 = .ok (.iload_n 2, 1) := by decide +kernel
theorem dX0_planCell_3 : decode cX0_planCell 3 = .ok (.bipush 6, 2) := by decide +kernel
theorem dX0_planCell_5 : decode cX0_planCell 5 = .ok (.if_icmp .ge 31, 3) := by decide +kernel
theorem dX0_planCell_8 : decode cX0_planCell 8 = .ok (.aload_n 0, 1) := by decide +kernel
theorem dX0_planCell_9 : decode cX0_planCell 9 = .ok (.getfield 20, 3) := by decide +kernel
theorem dX0_planCell_12 : decode cX0_planCell 12 = .ok (.iload_n 2, 1) := by decide +kernel
theorem dX0_planCell_13 : decode cX0_planCell 13 = .ok (.aload_n 0, 1) := by decide +kernel
theorem dX0_planCell_14 : decode cX0_planCell 14 = .ok (.getfield 20, 3) := by decide +kernel
theorem dX0_planCell_17 : decode cX0_planCell 17 = .ok (.iload_n 2, 1) := by decide +kernel
theorem dX0_planCell_18 : decode cX0_planCell 18 = .ok (.invokevirtual 30, 3) := by decide +kernel
theorem dX0_planCell_21 : decode cX0_planCell 21 = .ok (.iload_n 1, 1) := by decide +kernel
theorem dX0_planCell_22 : decode cX0_planCell 22 = .ok (.iload_n 2, 1) := by decide +kernel
theorem dX0_planCell_23 : decode cX0_planCell 23 = .ok (.ishr, 1) := by decide +kernel
theorem dX0_planCell_24 : decode cX0_planCell 24 = .ok (.iconst 1, 1) := by decide +kernel
theorem dX0_planCell_25 : decode cX0_planCell 25 = .ok (.iand, 1) := by decide +kernel
theorem dX0_planCell_26 : decode cX0_planCell 26 = .ok (.iadd, 1) := by decide +kernel
theorem dX0_planCell_27 : decode cX0_planCell 27 = .ok (.invokevirtual 37, 3) := by decide +kernel
theorem dX0_planCell_30 : decode cX0_planCell 30 = .ok (.iinc 2 1, 3) := by decide +kernel
theorem dX0_planCell_33 : decode cX0_planCell 33 = .ok (.goto (-31), 3) := by decide +kernel
theorem dX0_planCell_36 : decode cX0_planCell 36 = .ok (.return_, 1) := by decide +kernel
theorem dX0_bearsPlan_0 : decode cX0_bearsPlan 0 = .ok (.iconst 0, 1) := by decide +kernel
theorem dX0_bearsPlan_1 : decode cX0_bearsPlan 1 = .ok (.istore_n 1, 1) := by decide +kernel
theorem dX0_bearsPlan_2 : decode cX0_bearsPlan 2 = .ok (.iload_n 1, 1) := by decide +kernel
theorem dX0_bearsPlan_3 : decode cX0_bearsPlan 3 = .ok (.bipush 6, 2) := by decide +kernel
theorem dX0_bearsPlan_5 : decode cX0_bearsPlan 5 = .ok (.if_icmp .ge 46, 3) := by decide +kernel
theorem dX0_bearsPlan_8 : decode cX0_bearsPlan 8 = .ok (.aload_n 0, 1) := by decide +kernel
theorem dX0_bearsPlan_9 : decode cX0_bearsPlan 9 = .ok (.getfield 20, 3) := by decide +kernel
theorem dX0_bearsPlan_12 : decode cX0_bearsPlan 12 = .ok (.iload_n 1, 1) := by decide +kernel
theorem dX0_bearsPlan_13 : decode cX0_bearsPlan 13 = .ok (.invokevirtual 30, 3) := by decide +kernel
theorem dX0_bearsPlan_16 : decode cX0_bearsPlan 16 = .ok (.ifCond .le 29, 3) := by decide +kernel
theorem dX0_bearsPlan_19 : decode cX0_bearsPlan 19 = .ok (.aload_n 0, 1) := by decide +kernel
theorem dX0_bearsPlan_20 : decode cX0_bearsPlan 20 = .ok (.getfield 14, 3) := by decide +kernel
theorem dX0_bearsPlan_23 : decode cX0_bearsPlan 23 = .ok (.iload_n 1, 1) := by decide +kernel
theorem dX0_bearsPlan_24 : decode cX0_bearsPlan 24 = .ok (.invokevirtual 30, 3) := by decide +kernel
theorem dX0_bearsPlan_27 : decode cX0_bearsPlan 27 = .ok (.aload_n 0, 1) := by decide +kernel
theorem dX0_bearsPlan_28 : decode cX0_bearsPlan 28 = .ok (.getfield 20, 3) := by decide +kernel
theorem dX0_bearsPlan_31 : decode cX0_bearsPlan 31 = .ok (.iload_n 1, 1) := by decide +kernel
theorem dX0_bearsPlan_32 : decode cX0_bearsPlan 32 = .ok (.invokevirtual 30, 3) := by decide +kernel
theorem dX0_bearsPlan_35 : decode cX0_bearsPlan 35 = .ok (.iadd, 1) := by decide +kernel
theorem dX0_bearsPlan_36 : decode cX0_bearsPlan 36 = .ok (.aload_n 0, 1) := by decide +kernel
theorem dX0_bearsPlan_37 : decode cX0_bearsPlan 37 = .ok (.getfield 23, 3) := by decide +kernel
theorem dX0_bearsPlan_40 : decode cX0_bearsPlan 40 = .ok (.if_icmp .le 5, 3) := by decide +kernel
theorem dX0_bearsPlan_43 : decode cX0_bearsPlan 43 = .ok (.iconst 0, 1) := by decide +kernel
theorem dX0_bearsPlan_44 : decode cX0_bearsPlan 44 = .ok (.ireturn, 1) := by decide +kernel
theorem dX0_bearsPlan_45 : decode cX0_bearsPlan 45 = .ok (.iinc 1 1, 3) := by decide +kernel
theorem dX0_bearsPlan_48 : decode cX0_bearsPlan 48 = .ok (.goto (-46), 3) := by decide +kernel
theorem dX0_bearsPlan_51 : decode cX0_bearsPlan 51 = .ok (.iconst 1, 1) := by decide +kernel
theorem dX0_bearsPlan_52 : decode cX0_bearsPlan 52 = .ok (.ireturn, 1) := by decide +kernel
theorem dX0_strikePlan_0 : decode cX0_strikePlan 0 = .ok (.iconst 0, 1) := by decide +kernel
theorem dX0_strikePlan_1 : decode cX0_strikePlan 1 = .ok (.istore_n 1, 1) := by decide +kernel
theorem dX0_strikePlan_2 : decode cX0_strikePlan 2 = .ok (.iload_n 1, 1) := by decide +kernel
theorem dX0_strikePlan_3 : decode cX0_strikePlan 3 = .ok (.bipush 6, 2) := by decide +kernel
theorem dX0_strikePlan_5 : decode cX0_strikePlan 5 = .ok (.if_icmp .ge 34, 3) := by decide +kernel
theorem dX0_strikePlan_8 : decode cX0_strikePlan 8 = .ok (.aload_n 0, 1) := by decide +kernel
theorem dX0_strikePlan_9 : decode cX0_strikePlan 9 = .ok (.getfield 14, 3) := by decide +kernel
theorem dX0_strikePlan_12 : decode cX0_strikePlan 12 = .ok (.iload_n 1, 1) := by decide +kernel
theorem dX0_strikePlan_13 : decode cX0_strikePlan 13 = .ok (.aload_n 0, 1) := by decide +kernel
theorem dX0_strikePlan_14 : decode cX0_strikePlan 14 = .ok (.getfield 14, 3) := by decide +kernel
theorem dX0_strikePlan_17 : decode cX0_strikePlan 17 = .ok (.iload_n 1, 1) := by decide +kernel
theorem dX0_strikePlan_18 : decode cX0_strikePlan 18 = .ok (.invokevirtual 30, 3) := by decide +kernel
theorem dX0_strikePlan_21 : decode cX0_strikePlan 21 = .ok (.aload_n 0, 1) := by decide +kernel
theorem dX0_strikePlan_22 : decode cX0_strikePlan 22 = .ok (.getfield 20, 3) := by decide +kernel
theorem dX0_strikePlan_25 : decode cX0_strikePlan 25 = .ok (.iload_n 1, 1) := by decide +kernel
theorem dX0_strikePlan_26 : decode cX0_strikePlan 26 = .ok (.invokevirtual 30, 3) := by decide +kernel
theorem dX0_strikePlan_29 : decode cX0_strikePlan 29 = .ok (.iadd, 1) := by decide +kernel
theorem dX0_strikePlan_30 : decode cX0_strikePlan 30 = .ok (.invokevirtual 37, 3) := by decide +kernel
theorem dX0_strikePlan_33 : decode cX0_strikePlan 33 = .ok (.iinc 1 1, 3) := by decide +kernel
theorem dX0_strikePlan_36 : decode cX0_strikePlan 36 = .ok (.goto (-34), 3) := by decide +kernel
theorem dX0_strikePlan_39 : decode cX0_strikePlan 39 = .ok (.return_, 1) := by decide +kernel
theorem dX1_init_0 : decode cX1_init 0 = .ok (.aload_n 0, 1) := by decide +kernel
theorem dX1_init_1 : decode cX1_init 1 = .ok (.invokespecial 1, 3) := by decide +kernel
theorem dX1_init_4 : decode cX1_init 4 = .ok (.aload_n 0, 1) := by decide +kernel
theorem dX1_init_5 : decode cX1_init 5 = .ok (.new 7, 3) := by decide +kernel
theorem dX1_init_8 : decode cX1_init 8 = .ok (.dup, 1) := by decide +kernel
theorem dX1_init_9 : decode cX1_init 9 = .ok (.iload_n 2, 1) := by decide +kernel
theorem dX1_init_10 : decode cX1_init 10 = .ok (.invokespecial 9, 3) := by decide +kernel
theorem dX1_init_13 : decode cX1_init 13 = .ok (.putfield 12, 3) := by decide +kernel
theorem dX1_init_16 : decode cX1_init 16 = .ok (.aload_n 0, 1) := by decide +kernel
theorem dX1_init_17 : decode cX1_init 17 = .ok (.new 7, 3) := by decide +kernel
theorem dX1_init_20 : decode cX1_init 20 = .ok (.dup, 1) := by decide +kernel
theorem dX1_init_21 : decode cX1_init 21 = .ok (.iload_n 1, 1) := by decide +kernel
theorem dX1_init_22 : decode cX1_init 22 = .ok (.invokespecial 9, 3) := by decide +kernel
theorem dX1_init_25 : decode cX1_init 25 = .ok (.putfield 18, 3) := by decide +kernel
theorem dX1_init_28 : decode cX1_init 28 = .ok (.return_, 1) := by decide +kernel
theorem dX1_uncut_0 : decode cX1_uncut 0 = .ok (.aload_n 0, 1) := by decide +kernel
theorem dX1_uncut_1 : decode cX1_uncut 1 = .ok (.getfield 12, 3) := by decide +kernel
theorem dX1_uncut_4 : decode cX1_uncut 4 = .ok (.areturn, 1) := by decide +kernel
theorem dX1_count_0 : decode cX1_count 0 = .ok (.aload_n 0, 1) := by decide +kernel
theorem dX1_count_1 : decode cX1_count 1 = .ok (.getfield 18, 3) := by decide +kernel
theorem dX1_count_4 : decode cX1_count 4 = .ok (.invokevirtual 21, 3) := by decide +kernel
theorem dX1_count_7 : decode cX1_count 7 = .ok (.ireturn, 1) := by decide +kernel
theorem dX1_startOf_0 : decode cX1_startOf 0 = .ok (.iload_n 1, 1) := by decide +kernel
theorem dX1_startOf_1 : decode cX1_startOf 1 = .ok (.ifCond .ne 7, 3) := by decide +kernel
theorem dX1_startOf_4 : decode cX1_startOf 4 = .ok (.iconst 0, 1) := by decide +kernel
theorem dX1_startOf_5 : decode cX1_startOf 5 = .ok (.goto 13, 3) := by decide +kernel
theorem dX1_startOf_8 : decode cX1_startOf 8 = .ok (.aload_n 0, 1) := by decide +kernel
theorem dX1_startOf_9 : decode cX1_startOf 9 = .ok (.getfield 18, 3) := by decide +kernel
theorem dX1_startOf_12 : decode cX1_startOf 12 = .ok (.iload_n 1, 1) := by decide +kernel
theorem dX1_startOf_13 : decode cX1_startOf 13 = .ok (.iconst 1, 1) := by decide +kernel
theorem dX1_startOf_14 : decode cX1_startOf 14 = .ok (.isub, 1) := by decide +kernel
theorem dX1_startOf_15 : decode cX1_startOf 15 = .ok (.invokevirtual 25, 3) := by decide +kernel
theorem dX1_startOf_18 : decode cX1_startOf 18 = .ok (.ireturn, 1) := by decide +kernel
theorem dX1_endOf_0 : decode cX1_endOf 0 = .ok (.aload_n 0, 1) := by decide +kernel
theorem dX1_endOf_1 : decode cX1_endOf 1 = .ok (.getfield 18, 3) := by decide +kernel
theorem dX1_endOf_4 : decode cX1_endOf 4 = .ok (.iload_n 1, 1) := by decide +kernel
theorem dX1_endOf_5 : decode cX1_endOf 5 = .ok (.invokevirtual 25, 3) := by decide +kernel
theorem dX1_endOf_8 : decode cX1_endOf 8 = .ok (.ireturn, 1) := by decide +kernel
theorem dX1_sizeOf_0 : decode cX1_sizeOf 0 = .ok (.aload_n 0, 1) := by decide +kernel
theorem dX1_sizeOf_1 : decode cX1_sizeOf 1 = .ok (.iload_n 1, 1) := by decide +kernel
theorem dX1_sizeOf_2 : decode cX1_sizeOf 2 = .ok (.invokevirtual 29, 3) := by decide +kernel
theorem dX1_sizeOf_5 : decode cX1_sizeOf 5 = .ok (.aload_n 0, 1) := by decide +kernel
theorem dX1_sizeOf_6 : decode cX1_sizeOf 6 = .ok (.iload_n 1, 1) := by decide +kernel
theorem dX1_sizeOf_7 : decode cX1_sizeOf 7 = .ok (.invokevirtual 32, 3) := by decide +kernel
theorem dX1_sizeOf_10 : decode cX1_sizeOf 10 = .ok (.isub, 1) := by decide +kernel
theorem dX1_sizeOf_11 : decode cX1_sizeOf 11 = .ok (.ireturn, 1) := by decide +kernel
theorem dX1_get_0 : decode cX1_get 0 = .ok (.aload_n 0, 1) := by decide +kernel
theorem dX1_get_1 : decode cX1_get 1 = .ok (.getfield 12, 3) := by decide +kernel
theorem dX1_get_4 : decode cX1_get 4 = .ok (.aload_n 0, 1) := by decide +kernel
theorem dX1_get_5 : decode cX1_get 5 = .ok (.iload_n 1, 1) := by decide +kernel
theorem dX1_get_6 : decode cX1_get 6 = .ok (.invokevirtual 32, 3) := by decide +kernel
theorem dX1_get_9 : decode cX1_get 9 = .ok (.iload_n 2, 1) := by decide +kernel
theorem dX1_get_10 : decode cX1_get 10 = .ok (.iadd, 1) := by decide +kernel
theorem dX1_get_11 : decode cX1_get 11 = .ok (.invokevirtual 25, 3) := by decide +kernel
theorem dX1_get_14 : decode cX1_get 14 = .ok (.ireturn, 1) := by decide +kernel
theorem dX1_uncutSize_0 : decode cX1_uncutSize 0 = .ok (.aload_n 0, 1) := by decide +kernel
theorem dX1_uncutSize_1 : decode cX1_uncutSize 1 = .ok (.getfield 12, 3) := by decide +kernel
theorem dX1_uncutSize_4 : decode cX1_uncutSize 4 = .ok (.invokevirtual 21, 3) := by decide +kernel
theorem dX1_uncutSize_7 : decode cX1_uncutSize 7 = .ok (.aload_n 0, 1) := by decide +kernel
theorem dX1_uncutSize_8 : decode cX1_uncutSize 8 = .ok (.aload_n 0, 1) := by decide +kernel
theorem dX1_uncutSize_9 : decode cX1_uncutSize 9 = .ok (.invokevirtual 35, 3) := by decide +kernel
theorem dX1_uncutSize_12 : decode cX1_uncutSize 12 = .ok (.invokevirtual 32, 3) := by decide +kernel
theorem dX1_uncutSize_15 : decode cX1_uncutSize 15 = .ok (.isub, 1) := by decide +kernel
theorem dX1_uncutSize_16 : decode cX1_uncutSize 16 = .ok (.ireturn, 1) := by decide +kernel
theorem dX1_add_0 : decode cX1_add 0 = .ok (.aload_n 0, 1) := by decide +kernel
theorem dX1_add_1 : decode cX1_add 1 = .ok (.getfield 12, 3) := by decide +kernel
theorem dX1_add_4 : decode cX1_add 4 = .ok (.iload_n 1, 1) := by decide +kernel
theorem dX1_add_5 : decode cX1_add 5 = .ok (.invokevirtual 36, 3) := by decide +kernel
theorem dX1_add_8 : decode cX1_add 8 = .ok (.return_, 1) := by decide +kernel
theorem dX1_cut_0 : decode cX1_cut 0 = .ok (.aload_n 0, 1) := by decide +kernel
theorem dX1_cut_1 : decode cX1_cut 1 = .ok (.invokevirtual 39, 3) := by decide +kernel
theorem dX1_cut_4 : decode cX1_cut 4 = .ok (.ifCond .le 17, 3) := by decide +kernel
theorem dX1_cut_7 : decode cX1_cut 7 = .ok (.aload_n 0, 1) := by decide +kernel
theorem dX1_cut_8 : decode cX1_cut 8 = .ok (.getfield 18, 3) := by decide +kernel
theorem dX1_cut_11 : decode cX1_cut 11 = .ok (.aload_n 0, 1) := by decide +kernel
theorem dX1_cut_12 : decode cX1_cut 12 = .ok (.getfield 12, 3) := by decide +kernel
theorem dX1_cut_15 : decode cX1_cut 15 = .ok (.invokevirtual 21, 3) := by decide +kernel
theorem dX1_cut_18 : decode cX1_cut 18 = .ok (.invokevirtual 36, 3) := by decide +kernel
theorem dX1_cut_21 : decode cX1_cut 21 = .ok (.return_, 1) := by decide +kernel
theorem dX1_empty_0 : decode cX1_empty 0 = .ok (.aload_n 0, 1) := by decide +kernel
theorem dX1_empty_1 : decode cX1_empty 1 = .ok (.getfield 12, 3) := by decide +kernel
theorem dX1_empty_4 : decode cX1_empty 4 = .ok (.invokevirtual 42, 3) := by decide +kernel
theorem dX1_empty_7 : decode cX1_empty 7 = .ok (.aload_n 0, 1) := by decide +kernel
theorem dX1_empty_8 : decode cX1_empty 8 = .ok (.getfield 18, 3) := by decide +kernel
theorem dX1_empty_11 : decode cX1_empty 11 = .ok (.invokevirtual 42, 3) := by decide +kernel
theorem dX1_empty_14 : decode cX1_empty 14 = .ok (.return_, 1) := by decide +kernel
theorem dX1_drop_0 : decode cX1_drop 0 = .ok (.aload_n 0, 1) := by decide +kernel
theorem dX1_drop_1 : decode cX1_drop 1 = .ok (.iload_n 1, 1) := by decide +kernel
theorem dX1_drop_2 : decode cX1_drop 2 = .ok (.invokevirtual 32, 3) := by decide +kernel
theorem dX1_drop_5 : decode cX1_drop 5 = .ok (.istore_n 2, 1) := by decide +kernel
theorem dX1_drop_6 : decode cX1_drop 6 = .ok (.aload_n 0, 1) := by decide +kernel
theorem dX1_drop_7 : decode cX1_drop 7 = .ok (.iload_n 1, 1) := by decide +kernel
theorem dX1_drop_8 : decode cX1_drop 8 = .ok (.invokevirtual 45, 3) := by decide +kernel
theorem dX1_drop_11 : decode cX1_drop 11 = .ok (.istore_n 3, 1) := by decide +kernel
theorem dX1_drop_12 : decode cX1_drop 12 = .ok (.iconst 0, 1) := by decide +kernel
theorem dX1_drop_13 : decode cX1_drop 13 = .ok (.istore 4, 2) := by decide +kernel
theorem dX1_drop_15 : decode cX1_drop 15 = .ok (.iload 4, 2) := by decide +kernel
theorem dX1_drop_17 : decode cX1_drop 17 = .ok (.iload_n 3, 1) := by decide +kernel
theorem dX1_drop_18 : decode cX1_drop 18 = .ok (.if_icmp .ge 17, 3) := by decide +kernel
theorem dX1_drop_21 : decode cX1_drop 21 = .ok (.aload_n 0, 1) := by decide +kernel
theorem dX1_drop_22 : decode cX1_drop 22 = .ok (.getfield 12, 3) := by decide +kernel
theorem dX1_drop_25 : decode cX1_drop 25 = .ok (.iload_n 2, 1) := by decide +kernel
theorem dX1_drop_26 : decode cX1_drop 26 = .ok (.invokevirtual 48, 3) := by decide +kernel
theorem dX1_drop_29 : decode cX1_drop 29 = .ok (.iinc 4 1, 3) := by decide +kernel
theorem dX1_drop_32 : decode cX1_drop 32 = .ok (.goto (-17), 3) := by decide +kernel
theorem dX1_drop_35 : decode cX1_drop 35 = .ok (.aload_n 0, 1) := by decide +kernel
theorem dX1_drop_36 : decode cX1_drop 36 = .ok (.getfield 18, 3) := by decide +kernel
theorem dX1_drop_39 : decode cX1_drop 39 = .ok (.iload_n 1, 1) := by decide +kernel
theorem dX1_drop_40 : decode cX1_drop 40 = .ok (.invokevirtual 48, 3) := by decide +kernel
theorem dX1_drop_43 : decode cX1_drop 43 = .ok (.iload_n 1, 1) := by decide +kernel
theorem dX1_drop_44 : decode cX1_drop 44 = .ok (.istore 4, 2) := by decide +kernel
theorem dX1_drop_46 : decode cX1_drop 46 = .ok (.iload 4, 2) := by decide +kernel
theorem dX1_drop_48 : decode cX1_drop 48 = .ok (.aload_n 0, 1) := by decide +kernel
theorem dX1_drop_49 : decode cX1_drop 49 = .ok (.getfield 18, 3) := by decide +kernel
theorem dX1_drop_52 : decode cX1_drop 52 = .ok (.invokevirtual 21, 3) := by decide +kernel
theorem dX1_drop_55 : decode cX1_drop 55 = .ok (.if_icmp .ge 29, 3) := by decide +kernel
theorem dX1_drop_58 : decode cX1_drop 58 = .ok (.aload_n 0, 1) := by decide +kernel
theorem dX1_drop_59 : decode cX1_drop 59 = .ok (.getfield 18, 3) := by decide +kernel
theorem dX1_drop_62 : decode cX1_drop 62 = .ok (.iload 4, 2) := by decide +kernel
theorem dX1_drop_64 : decode cX1_drop 64 = .ok (.aload_n 0, 1) := by decide +kernel
theorem dX1_drop_65 : decode cX1_drop 65 = .ok (.getfield 18, 3) := by decide +kernel
theorem dX1_drop_68 : decode cX1_drop 68 = .ok (.iload 4, 2) := by decide +kernel
theorem dX1_drop_70 : decode cX1_drop 70 = .ok (.invokevirtual 25, 3) := by decide +kernel
theorem dX1_drop_73 : decode cX1_drop 73 = .ok (.iload_n 3, 1) := by decide +kernel
theorem dX1_drop_74 : decode cX1_drop 74 = .ok (.isub, 1) := by decide +kernel
theorem dX1_drop_75 : decode cX1_drop 75 = .ok (.invokevirtual 51, 3) := by decide +kernel
theorem dX1_drop_78 : decode cX1_drop 78 = .ok (.iinc 4 1, 3) := by decide +kernel
theorem dX1_drop_81 : decode cX1_drop 81 = .ok (.goto (-35), 3) := by decide +kernel
theorem dX1_drop_84 : decode cX1_drop 84 = .ok (.return_, 1) := by decide +kernel
theorem dX1_isSame_0 : decode cX1_isSame 0 = .ok (.aload_n 0, 1) := by decide +kernel
theorem dX1_isSame_1 : decode cX1_isSame 1 = .ok (.iload_n 1, 1) := by decide +kernel
theorem dX1_isSame_2 : decode cX1_isSame 2 = .ok (.invokevirtual 32, 3) := by decide +kernel
theorem dX1_isSame_5 : decode cX1_isSame 5 = .ok (.istore 5, 2) := by decide +kernel
theorem dX1_isSame_7 : decode cX1_isSame 7 = .ok (.aload_n 0, 1) := by decide +kernel
theorem dX1_isSame_8 : decode cX1_isSame 8 = .ok (.getfield 18, 3) := by decide +kernel
theorem dX1_isSame_11 : decode cX1_isSame 11 = .ok (.iload_n 1, 1) := by decide +kernel
theorem dX1_isSame_12 : decode cX1_isSame 12 = .ok (.invokevirtual 25, 3) := by decide +kernel
theorem dX1_isSame_15 : decode cX1_isSame 15 = .ok (.iload 5, 2) := by decide +kernel
theorem dX1_isSame_17 : decode cX1_isSame 17 = .ok (.isub, 1) := by decide +kernel
theorem dX1_isSame_18 : decode cX1_isSame 18 = .ok (.iload 4, 2) := by decide +kernel
theorem dX1_isSame_20 : decode cX1_isSame 20 = .ok (.iload_n 3, 1) := by decide +kernel
theorem dX1_isSame_21 : decode cX1_isSame 21 = .ok (.isub, 1) := by decide +kernel
theorem dX1_isSame_22 : decode cX1_isSame 22 = .ok (.if_icmp .eq 5, 3) := by decide +kernel
theorem dX1_isSame_25 : decode cX1_isSame 25 = .ok (.iconst 0, 1) := by decide +kernel
theorem dX1_isSame_26 : decode cX1_isSame 26 = .ok (.ireturn, 1) := by decide +kernel
theorem dX1_isSame_27 : decode cX1_isSame 27 = .ok (.iconst 0, 1) := by decide +kernel
theorem dX1_isSame_28 : decode cX1_isSame 28 = .ok (.istore 6, 2) := by decide +kernel
theorem dX1_isSame_30 : decode cX1_isSame 30 = .ok (.iload 6, 2) := by decide +kernel
theorem dX1_isSame_32 : decode cX1_isSame 32 = .ok (.iload 4, 2) := by decide +kernel
theorem dX1_isSame_34 : decode cX1_isSame 34 = .ok (.iload_n 3, 1) := by decide +kernel
theorem dX1_isSame_35 : decode cX1_isSame 35 = .ok (.isub, 1) := by decide +kernel
theorem dX1_isSame_36 : decode cX1_isSame 36 = .ok (.if_icmp .ge 34, 3) := by decide +kernel
theorem dX1_isSame_39 : decode cX1_isSame 39 = .ok (.aload_n 0, 1) := by decide +kernel
theorem dX1_isSame_40 : decode cX1_isSame 40 = .ok (.getfield 12, 3) := by decide +kernel
theorem dX1_isSame_43 : decode cX1_isSame 43 = .ok (.iload 5, 2) := by decide +kernel
theorem dX1_isSame_45 : decode cX1_isSame 45 = .ok (.iload 6, 2) := by decide +kernel
theorem dX1_isSame_47 : decode cX1_isSame 47 = .ok (.iadd, 1) := by decide +kernel
theorem dX1_isSame_48 : decode cX1_isSame 48 = .ok (.invokevirtual 25, 3) := by decide +kernel
theorem dX1_isSame_51 : decode cX1_isSame 51 = .ok (.aload_n 2, 1) := by decide +kernel
theorem dX1_isSame_52 : decode cX1_isSame 52 = .ok (.iload_n 3, 1) := by decide +kernel
theorem dX1_isSame_53 : decode cX1_isSame 53 = .ok (.iload 6, 2) := by decide +kernel
theorem dX1_isSame_55 : decode cX1_isSame 55 = .ok (.iadd, 1) := by decide +kernel
theorem dX1_isSame_56 : decode cX1_isSame 56 = .ok (.invokevirtual 25, 3) := by decide +kernel
theorem dX1_isSame_59 : decode cX1_isSame 59 = .ok (.if_icmp .eq 5, 3) := by decide +kernel
theorem dX1_isSame_62 : decode cX1_isSame 62 = .ok (.iconst 0, 1) := by decide +kernel
theorem dX1_isSame_63 : decode cX1_isSame 63 = .ok (.ireturn, 1) := by decide +kernel
theorem dX1_isSame_64 : decode cX1_isSame 64 = .ok (.iinc 6 1, 3) := by decide +kernel
theorem dX1_isSame_67 : decode cX1_isSame 67 = .ok (.goto (-37), 3) := by decide +kernel
theorem dX1_isSame_70 : decode cX1_isSame 70 = .ok (.iconst 1, 1) := by decide +kernel
theorem dX1_isSame_71 : decode cX1_isSame 71 = .ok (.ireturn, 1) := by decide +kernel
theorem dX1_shares_0 : decode cX1_shares 0 = .ok (.iload_n 1, 1) := by decide +kernel
theorem dX1_shares_1 : decode cX1_shares 1 = .ok (.aload_n 0, 1) := by decide +kernel
theorem dX1_shares_2 : decode cX1_shares 2 = .ok (.invokevirtual 35, 3) := by decide +kernel
theorem dX1_shares_5 : decode cX1_shares 5 = .ok (.if_icmp .ge 37, 3) := by decide +kernel
theorem dX1_shares_8 : decode cX1_shares 8 = .ok (.iload_n 1, 1) := by decide +kernel
theorem dX1_shares_9 : decode cX1_shares 9 = .ok (.aload_n 2, 1) := by decide +kernel
theorem dX1_shares_10 : decode cX1_shares 10 = .ok (.invokevirtual 35, 3) := by decide +kernel
theorem dX1_shares_13 : decode cX1_shares 13 = .ok (.if_icmp .ge 29, 3) := by decide +kernel
theorem dX1_shares_16 : decode cX1_shares 16 = .ok (.aload_n 0, 1) := by decide +kernel
theorem dX1_shares_17 : decode cX1_shares 17 = .ok (.iload_n 1, 1) := by decide +kernel
theorem dX1_shares_18 : decode cX1_shares 18 = .ok (.aload_n 2, 1) := by decide +kernel
theorem dX1_shares_19 : decode cX1_shares 19 = .ok (.getfield 12, 3) := by decide +kernel
theorem dX1_shares_22 : decode cX1_shares 22 = .ok (.aload_n 2, 1) := by decide +kernel
theorem dX1_shares_23 : decode cX1_shares 23 = .ok (.iload_n 1, 1) := by decide +kernel
theorem dX1_shares_24 : decode cX1_shares 24 = .ok (.invokevirtual 32, 3) := by decide +kernel
theorem dX1_shares_27 : decode cX1_shares 27 = .ok (.aload_n 2, 1) := by decide +kernel
theorem dX1_shares_28 : decode cX1_shares 28 = .ok (.iload_n 1, 1) := by decide +kernel
theorem dX1_shares_29 : decode cX1_shares 29 = .ok (.invokevirtual 29, 3) := by decide +kernel
theorem dX1_shares_32 : decode cX1_shares 32 = .ok (.invokevirtual 55, 3) := by decide +kernel
theorem dX1_shares_35 : decode cX1_shares 35 = .ok (.ifCond .eq 7, 3) := by decide +kernel
theorem dX1_shares_38 : decode cX1_shares 38 = .ok (.iconst 1, 1) := by decide +kernel
theorem dX1_shares_39 : decode cX1_shares 39 = .ok (.goto 4, 3) := by decide +kernel
theorem dX1_shares_42 : decode cX1_shares 42 = .ok (.iconst 0, 1) := by decide +kernel
theorem dX1_shares_43 : decode cX1_shares 43 = .ok (.ireturn, 1) := by decide +kernel
theorem dX1_takeOver_0 : decode cX1_takeOver 0 = .ok (.aload_n 0, 1) := by decide +kernel
theorem dX1_takeOver_1 : decode cX1_takeOver 1 = .ok (.getfield 12, 3) := by decide +kernel
theorem dX1_takeOver_4 : decode cX1_takeOver 4 = .ok (.aload_n 1, 1) := by decide +kernel
theorem dX1_takeOver_5 : decode cX1_takeOver 5 = .ok (.getfield 12, 3) := by decide +kernel
theorem dX1_takeOver_8 : decode cX1_takeOver 8 = .ok (.invokevirtual 59, 3) := by decide +kernel
theorem dX1_takeOver_11 : decode cX1_takeOver 11 = .ok (.aload_n 0, 1) := by decide +kernel
theorem dX1_takeOver_12 : decode cX1_takeOver 12 = .ok (.getfield 18, 3) := by decide +kernel
theorem dX1_takeOver_15 : decode cX1_takeOver 15 = .ok (.aload_n 1, 1) := by decide +kernel
theorem dX1_takeOver_16 : decode cX1_takeOver 16 = .ok (.getfield 18, 3) := by decide +kernel
theorem dX1_takeOver_19 : decode cX1_takeOver 19 = .ok (.invokevirtual 59, 3) := by decide +kernel
theorem dX1_takeOver_22 : decode cX1_takeOver 22 = .ok (.return_, 1) := by decide +kernel
theorem dX2_init_0 : decode cX2_init 0 = .ok (.aload_n 0, 1) := by decide +kernel
theorem dX2_init_1 : decode cX2_init 1 = .ok (.invokespecial 3, 3) := by decide +kernel
theorem dX2_init_4 : decode cX2_init 4 = .ok (.aload_n 0, 1) := by decide +kernel
theorem dX2_init_5 : decode cX2_init 5 = .ok (.iconst 0, 1) := by decide +kernel
theorem dX2_init_6 : decode cX2_init 6 = .ok (.putfield 9, 3) := by decide +kernel
theorem dX2_init_9 : decode cX2_init 9 = .ok (.aload_n 0, 1) := by decide +kernel
theorem dX2_init_10 : decode cX2_init 10 = .ok (.iload_n 1, 1) := by decide +kernel
theorem dX2_init_11 : decode cX2_init 11 = .ok (.ifCond .ge 7, 3) := by decide +kernel
theorem dX2_init_14 : decode cX2_init 14 = .ok (.iconst 0, 1) := by decide +kernel
theorem dX2_init_15 : decode cX2_init 15 = .ok (.goto 4, 3) := by decide +kernel
theorem dX2_init_18 : decode cX2_init 18 = .ok (.iload_n 1, 1) := by decide +kernel
theorem dX2_init_19 : decode cX2_init 19 = .ok (.newarray .int, 2) := by decide +kernel
theorem dX2_init_21 : decode cX2_init 21 = .ok (.putfield 15, 3) := by decide +kernel
theorem dX2_init_24 : decode cX2_init 24 = .ok (.return_, 1) := by decide +kernel
theorem dX2_count_0 : decode cX2_count 0 = .ok (.aload_n 0, 1) := by decide +kernel
theorem dX2_count_1 : decode cX2_count 1 = .ok (.getfield 9, 3) := by decide +kernel
theorem dX2_count_4 : decode cX2_count 4 = .ok (.ireturn, 1) := by decide +kernel
theorem dX2_isFull_0 : decode cX2_isFull 0 = .ok (.aload_n 0, 1) := by decide +kernel
theorem dX2_isFull_1 : decode cX2_isFull 1 = .ok (.getfield 9, 3) := by decide +kernel
theorem dX2_isFull_4 : decode cX2_isFull 4 = .ok (.aload_n 0, 1) := by decide +kernel
theorem dX2_isFull_5 : decode cX2_isFull 5 = .ok (.getfield 15, 3) := by decide +kernel
theorem dX2_isFull_8 : decode cX2_isFull 8 = .ok (.arraylength, 1) := by decide +kernel
theorem dX2_isFull_9 : decode cX2_isFull 9 = .ok (.if_icmp .lt 7, 3) := by decide +kernel
theorem dX2_isFull_12 : decode cX2_isFull 12 = .ok (.iconst 1, 1) := by decide +kernel
theorem dX2_isFull_13 : decode cX2_isFull 13 = .ok (.goto 4, 3) := by decide +kernel
theorem dX2_isFull_16 : decode cX2_isFull 16 = .ok (.iconst 0, 1) := by decide +kernel
theorem dX2_isFull_17 : decode cX2_isFull 17 = .ok (.ireturn, 1) := by decide +kernel
theorem dX2_get_0 : decode cX2_get 0 = .ok (.iload_n 1, 1) := by decide +kernel
theorem dX2_get_1 : decode cX2_get 1 = .ok (.ifCond .lt 11, 3) := by decide +kernel
theorem dX2_get_4 : decode cX2_get 4 = .ok (.iload_n 1, 1) := by decide +kernel
theorem dX2_get_5 : decode cX2_get 5 = .ok (.aload_n 0, 1) := by decide +kernel
theorem dX2_get_6 : decode cX2_get 6 = .ok (.getfield 9, 3) := by decide +kernel
theorem dX2_get_9 : decode cX2_get 9 = .ok (.if_icmp .lt 7, 3) := by decide +kernel
theorem dX2_get_12 : decode cX2_get 12 = .ok (.iconst 0, 1) := by decide +kernel
theorem dX2_get_13 : decode cX2_get 13 = .ok (.goto 9, 3) := by decide +kernel
theorem dX2_get_16 : decode cX2_get 16 = .ok (.aload_n 0, 1) := by decide +kernel
theorem dX2_get_17 : decode cX2_get 17 = .ok (.getfield 15, 3) := by decide +kernel
theorem dX2_get_20 : decode cX2_get 20 = .ok (.iload_n 1, 1) := by decide +kernel
theorem dX2_get_21 : decode cX2_get 21 = .ok (.iaload, 1) := by decide +kernel
theorem dX2_get_22 : decode cX2_get 22 = .ok (.ireturn, 1) := by decide +kernel
theorem dX2_set_0 : decode cX2_set 0 = .ok (.iload_n 1, 1) := by decide +kernel
theorem dX2_set_1 : decode cX2_set 1 = .ok (.ifCond .lt 18, 3) := by decide +kernel
theorem dX2_set_4 : decode cX2_set 4 = .ok (.iload_n 1, 1) := by decide +kernel
theorem dX2_set_5 : decode cX2_set 5 = .ok (.aload_n 0, 1) := by decide +kernel
theorem dX2_set_6 : decode cX2_set 6 = .ok (.getfield 9, 3) := by decide +kernel
theorem dX2_set_9 : decode cX2_set 9 = .ok (.if_icmp .ge 10, 3) := by decide +kernel
theorem dX2_set_12 : decode cX2_set 12 = .ok (.aload_n 0, 1) := by decide +kernel
theorem dX2_set_13 : decode cX2_set 13 = .ok (.getfield 15, 3) := by decide +kernel
theorem dX2_set_16 : decode cX2_set 16 = .ok (.iload_n 1, 1) := by decide +kernel
theorem dX2_set_17 : decode cX2_set 17 = .ok (.iload_n 2, 1) := by decide +kernel
theorem dX2_set_18 : decode cX2_set 18 = .ok (.iastore, 1) := by decide +kernel
theorem dX2_set_19 : decode cX2_set 19 = .ok (.return_, 1) := by decide +kernel
theorem dX2_add_0 : decode cX2_add 0 = .ok (.aload_n 0, 1) := by decide +kernel
theorem dX2_add_1 : decode cX2_add 1 = .ok (.getfield 9, 3) := by decide +kernel
theorem dX2_add_4 : decode cX2_add 4 = .ok (.aload_n 0, 1) := by decide +kernel
theorem dX2_add_5 : decode cX2_add 5 = .ok (.getfield 15, 3) := by decide +kernel
theorem dX2_add_8 : decode cX2_add 8 = .ok (.arraylength, 1) := by decide +kernel
theorem dX2_add_9 : decode cX2_add 9 = .ok (.if_icmp .ge 23, 3) := by decide +kernel
theorem dX2_add_12 : decode cX2_add 12 = .ok (.aload_n 0, 1) := by decide +kernel
theorem dX2_add_13 : decode cX2_add 13 = .ok (.getfield 15, 3) := by decide +kernel
theorem dX2_add_16 : decode cX2_add 16 = .ok (.aload_n 0, 1) := by decide +kernel
theorem dX2_add_17 : decode cX2_add 17 = .ok (.getfield 9, 3) := by decide +kernel
theorem dX2_add_20 : decode cX2_add 20 = .ok (.iload_n 1, 1) := by decide +kernel
theorem dX2_add_21 : decode cX2_add 21 = .ok (.iastore, 1) := by decide +kernel
theorem dX2_add_22 : decode cX2_add 22 = .ok (.aload_n 0, 1) := by decide +kernel
theorem dX2_add_23 : decode cX2_add 23 = .ok (.dup, 1) := by decide +kernel
theorem dX2_add_24 : decode cX2_add 24 = .ok (.getfield 9, 3) := by decide +kernel
theorem dX2_add_27 : decode cX2_add 27 = .ok (.iconst 1, 1) := by decide +kernel
theorem dX2_add_28 : decode cX2_add 28 = .ok (.iadd, 1) := by decide +kernel
theorem dX2_add_29 : decode cX2_add 29 = .ok (.putfield 9, 3) := by decide +kernel
theorem dX2_add_32 : decode cX2_add 32 = .ok (.return_, 1) := by decide +kernel
theorem dX2_insert_0 : decode cX2_insert 0 = .ok (.iload_n 1, 1) := by decide +kernel
theorem dX2_insert_1 : decode cX2_insert 1 = .ok (.ifCond .lt 61, 3) := by decide +kernel
theorem dX2_insert_4 : decode cX2_insert 4 = .ok (.iload_n 1, 1) := by decide +kernel
theorem dX2_insert_5 : decode cX2_insert 5 = .ok (.aload_n 0, 1) := by decide +kernel
theorem dX2_insert_6 : decode cX2_insert 6 = .ok (.getfield 9, 3) := by decide +kernel
theorem dX2_insert_9 : decode cX2_insert 9 = .ok (.if_icmp .gt 53, 3) := by decide +kernel
theorem dX2_insert_12 : decode cX2_insert 12 = .ok (.aload_n 0, 1) := by decide +kernel
theorem dX2_insert_13 : decode cX2_insert 13 = .ok (.getfield 9, 3) := by decide +kernel
theorem dX2_insert_16 : decode cX2_insert 16 = .ok (.aload_n 0, 1) := by decide +kernel
theorem dX2_insert_17 : decode cX2_insert 17 = .ok (.getfield 15, 3) := by decide +kernel
theorem dX2_insert_20 : decode cX2_insert 20 = .ok (.arraylength, 1) := by decide +kernel
theorem dX2_insert_21 : decode cX2_insert 21 = .ok (.if_icmp .ge 41, 3) := by decide +kernel
theorem dX2_insert_24 : decode cX2_insert 24 = .ok (.aload_n 0, 1) := by decide +kernel
theorem dX2_insert_25 : decode cX2_insert 25 = .ok (.getfield 15, 3) := by decide +kernel
theorem dX2_insert_28 : decode cX2_insert 28 = .ok (.iload_n 1, 1) := by decide +kernel
theorem dX2_insert_29 : decode cX2_insert 29 = .ok (.aload_n 0, 1) := by decide +kernel
theorem dX2_insert_30 : decode cX2_insert 30 = .ok (.getfield 15, 3) := by decide +kernel
theorem dX2_insert_33 : decode cX2_insert 33 = .ok (.iload_n 1, 1) := by decide +kernel
theorem dX2_insert_34 : decode cX2_insert 34 = .ok (.iconst 1, 1) := by decide +kernel
theorem dX2_insert_35 : decode cX2_insert 35 = .ok (.iadd, 1) := by decide +kernel
theorem dX2_insert_36 : decode cX2_insert 36 = .ok (.aload_n 0, 1) := by decide +kernel
theorem dX2_insert_37 : decode cX2_insert 37 = .ok (.getfield 9, 3) := by decide +kernel
theorem dX2_insert_40 : decode cX2_insert 40 = .ok (.iload_n 1, 1) := by decide +kernel
theorem dX2_insert_41 : decode cX2_insert 41 = .ok (.isub, 1) := by decide +kernel
theorem dX2_insert_42 : decode cX2_insert 42 = .ok (.invokestatic 19, 3) := by decide +kernel
theorem dX2_insert_45 : decode cX2_insert 45 = .ok (.aload_n 0, 1) := by decide +kernel
theorem dX2_insert_46 : decode cX2_insert 46 = .ok (.getfield 15, 3) := by decide +kernel
theorem dX2_insert_49 : decode cX2_insert 49 = .ok (.iload_n 1, 1) := by decide +kernel
theorem dX2_insert_50 : decode cX2_insert 50 = .ok (.iload_n 2, 1) := by decide +kernel
theorem dX2_insert_51 : decode cX2_insert 51 = .ok (.iastore, 1) := by decide +kernel
theorem dX2_insert_52 : decode cX2_insert 52 = .ok (.aload_n 0, 1) := by decide +kernel
theorem dX2_insert_53 : decode cX2_insert 53 = .ok (.dup, 1) := by decide +kernel
theorem dX2_insert_54 : decode cX2_insert 54 = .ok (.getfield 9, 3) := by decide +kernel
theorem dX2_insert_57 : decode cX2_insert 57 = .ok (.iconst 1, 1) := by decide +kernel
theorem dX2_insert_58 : decode cX2_insert 58 = .ok (.iadd, 1) := by decide +kernel
theorem dX2_insert_59 : decode cX2_insert 59 = .ok (.putfield 9, 3) := by decide +kernel
theorem dX2_insert_62 : decode cX2_insert 62 = .ok (.return_, 1) := by decide +kernel
theorem dX2_remove_0 : decode cX2_remove 0 = .ok (.iload_n 1, 1) := by decide +kernel
theorem dX2_remove_1 : decode cX2_remove 1 = .ok (.ifCond .lt 42, 3) := by decide +kernel
theorem dX2_remove_4 : decode cX2_remove 4 = .ok (.iload_n 1, 1) := by decide +kernel
theorem dX2_remove_5 : decode cX2_remove 5 = .ok (.aload_n 0, 1) := by decide +kernel
theorem dX2_remove_6 : decode cX2_remove 6 = .ok (.getfield 9, 3) := by decide +kernel
theorem dX2_remove_9 : decode cX2_remove 9 = .ok (.if_icmp .ge 34, 3) := by decide +kernel
theorem dX2_remove_12 : decode cX2_remove 12 = .ok (.aload_n 0, 1) := by decide +kernel
theorem dX2_remove_13 : decode cX2_remove 13 = .ok (.dup, 1) := by decide +kernel
theorem dX2_remove_14 : decode cX2_remove 14 = .ok (.getfield 9, 3) := by decide +kernel
theorem dX2_remove_17 : decode cX2_remove 17 = .ok (.iconst 1, 1) := by decide +kernel
theorem dX2_remove_18 : decode cX2_remove 18 = .ok (.isub, 1) := by decide +kernel
theorem dX2_remove_19 : decode cX2_remove 19 = .ok (.putfield 9, 3) := by decide +kernel
theorem dX2_remove_22 : decode cX2_remove 22 = .ok (.aload_n 0, 1) := by decide +kernel
theorem dX2_remove_23 : decode cX2_remove 23 = .ok (.getfield 15, 3) := by decide +kernel
theorem dX2_remove_26 : decode cX2_remove 26 = .ok (.iload_n 1, 1) := by decide +kernel
theorem dX2_remove_27 : decode cX2_remove 27 = .ok (.iconst 1, 1) := by decide +kernel
theorem dX2_remove_28 : decode cX2_remove 28 = .ok (.iadd, 1) := by decide +kernel
theorem dX2_remove_29 : decode cX2_remove 29 = .ok (.aload_n 0, 1) := by decide +kernel
theorem dX2_remove_30 : decode cX2_remove 30 = .ok (.getfield 15, 3) := by decide +kernel
theorem dX2_remove_33 : decode cX2_remove 33 = .ok (.iload_n 1, 1) := by decide +kernel
theorem dX2_remove_34 : decode cX2_remove 34 = .ok (.aload_n 0, 1) := by decide +kernel
theorem dX2_remove_35 : decode cX2_remove 35 = .ok (.getfield 9, 3) := by decide +kernel
theorem dX2_remove_38 : decode cX2_remove 38 = .ok (.iload_n 1, 1) := by decide +kernel
theorem dX2_remove_39 : decode cX2_remove 39 = .ok (.isub, 1) := by decide +kernel
theorem dX2_remove_40 : decode cX2_remove 40 = .ok (.invokestatic 19, 3) := by decide +kernel
theorem dX2_remove_43 : decode cX2_remove 43 = .ok (.return_, 1) := by decide +kernel
theorem dX2_empty_0 : decode cX2_empty 0 = .ok (.aload_n 0, 1) := by decide +kernel
theorem dX2_empty_1 : decode cX2_empty 1 = .ok (.iconst 0, 1) := by decide +kernel
theorem dX2_empty_2 : decode cX2_empty 2 = .ok (.putfield 9, 3) := by decide +kernel
theorem dX2_empty_5 : decode cX2_empty 5 = .ok (.return_, 1) := by decide +kernel
theorem dX2_placeOf_0 : decode cX2_placeOf 0 = .ok (.iconst 0, 1) := by decide +kernel
theorem dX2_placeOf_1 : decode cX2_placeOf 1 = .ok (.istore_n 2, 1) := by decide +kernel
theorem dX2_placeOf_2 : decode cX2_placeOf 2 = .ok (.iload_n 2, 1) := by decide +kernel
theorem dX2_placeOf_3 : decode cX2_placeOf 3 = .ok (.aload_n 0, 1) := by decide +kernel
theorem dX2_placeOf_4 : decode cX2_placeOf 4 = .ok (.getfield 9, 3) := by decide +kernel
theorem dX2_placeOf_7 : decode cX2_placeOf 7 = .ok (.if_icmp .ge 20, 3) := by decide +kernel
theorem dX2_placeOf_10 : decode cX2_placeOf 10 = .ok (.aload_n 0, 1) := by decide +kernel
theorem dX2_placeOf_11 : decode cX2_placeOf 11 = .ok (.iload_n 2, 1) := by decide +kernel
theorem dX2_placeOf_12 : decode cX2_placeOf 12 = .ok (.invokevirtual 25, 3) := by decide +kernel
theorem dX2_placeOf_15 : decode cX2_placeOf 15 = .ok (.iload_n 1, 1) := by decide +kernel
theorem dX2_placeOf_16 : decode cX2_placeOf 16 = .ok (.if_icmp .ne 5, 3) := by decide +kernel
theorem dX2_placeOf_19 : decode cX2_placeOf 19 = .ok (.iload_n 2, 1) := by decide +kernel
theorem dX2_placeOf_20 : decode cX2_placeOf 20 = .ok (.ireturn, 1) := by decide +kernel
theorem dX2_placeOf_21 : decode cX2_placeOf 21 = .ok (.iinc 2 1, 3) := by decide +kernel
theorem dX2_placeOf_24 : decode cX2_placeOf 24 = .ok (.goto (-22), 3) := by decide +kernel
theorem dX2_placeOf_27 : decode cX2_placeOf 27 = .ok (.iconst (-1), 1) := by decide +kernel
theorem dX2_placeOf_28 : decode cX2_placeOf 28 = .ok (.ireturn, 1) := by decide +kernel
theorem dX2_takeOver_0 : decode cX2_takeOver 0 = .ok (.aload_n 0, 1) := by decide +kernel
theorem dX2_takeOver_1 : decode cX2_takeOver 1 = .ok (.invokevirtual 29, 3) := by decide +kernel
theorem dX2_takeOver_4 : decode cX2_takeOver 4 = .ok (.iconst 0, 1) := by decide +kernel
theorem dX2_takeOver_5 : decode cX2_takeOver 5 = .ok (.istore_n 2, 1) := by decide +kernel
theorem dX2_takeOver_6 : decode cX2_takeOver 6 = .ok (.iload_n 2, 1) := by decide +kernel
theorem dX2_takeOver_7 : decode cX2_takeOver 7 = .ok (.aload_n 1, 1) := by decide +kernel
theorem dX2_takeOver_8 : decode cX2_takeOver 8 = .ok (.invokevirtual 32, 3) := by decide +kernel
theorem dX2_takeOver_11 : decode cX2_takeOver 11 = .ok (.if_icmp .ge 18, 3) := by decide +kernel
theorem dX2_takeOver_14 : decode cX2_takeOver 14 = .ok (.aload_n 0, 1) := by decide +kernel
theorem dX2_takeOver_15 : decode cX2_takeOver 15 = .ok (.aload_n 1, 1) := by decide +kernel
theorem dX2_takeOver_16 : decode cX2_takeOver 16 = .ok (.iload_n 2, 1) := by decide +kernel
theorem dX2_takeOver_17 : decode cX2_takeOver 17 = .ok (.invokevirtual 25, 3) := by decide +kernel
theorem dX2_takeOver_20 : decode cX2_takeOver 20 = .ok (.invokevirtual 35, 3) := by decide +kernel
theorem dX2_takeOver_23 : decode cX2_takeOver 23 = .ok (.iinc 2 1, 3) := by decide +kernel
theorem dX2_takeOver_26 : decode cX2_takeOver 26 = .ok (.goto (-20), 3) := by decide +kernel
theorem dX2_takeOver_29 : decode cX2_takeOver 29 = .ok (.return_, 1) := by decide +kernel
theorem dX3_init_0 : decode cX3_init 0 = .ok (.aload_n 0, 1) := by decide +kernel
theorem dX3_init_1 : decode cX3_init 1 = .ok (.invokespecial 5, 3) := by decide +kernel
theorem dX3_init_4 : decode cX3_init 4 = .ok (.aload_n 0, 1) := by decide +kernel
theorem dX3_init_5 : decode cX3_init 5 = .ok (.new 11, 3) := by decide +kernel
theorem dX3_init_8 : decode cX3_init 8 = .ok (.dup, 1) := by decide +kernel
theorem dX3_init_9 : decode cX3_init 9 = .ok (.bipush 40, 2) := by decide +kernel
theorem dX3_init_11 : decode cX3_init 11 = .ok (.invokespecial 13, 3) := by decide +kernel
theorem dX3_init_14 : decode cX3_init 14 = .ok (.putfield 16, 3) := by decide +kernel
theorem dX3_init_17 : decode cX3_init 17 = .ok (.aload_n 0, 1) := by decide +kernel
theorem dX3_init_18 : decode cX3_init 18 = .ok (.new 11, 3) := by decide +kernel
theorem dX3_init_21 : decode cX3_init 21 = .ok (.dup, 1) := by decide +kernel
theorem dX3_init_22 : decode cX3_init 22 = .ok (.bipush 40, 2) := by decide +kernel
theorem dX3_init_24 : decode cX3_init 24 = .ok (.invokespecial 13, 3) := by decide +kernel
theorem dX3_init_27 : decode cX3_init 27 = .ok (.putfield 20, 3) := by decide +kernel
theorem dX3_init_30 : decode cX3_init 30 = .ok (.aload_n 0, 1) := by decide +kernel
theorem dX3_init_31 : decode cX3_init 31 = .ok (.new 11, 3) := by decide +kernel
theorem dX3_init_34 : decode cX3_init 34 = .ok (.dup, 1) := by decide +kernel
theorem dX3_init_35 : decode cX3_init 35 = .ok (.bipush 40, 2) := by decide +kernel
theorem dX3_init_37 : decode cX3_init 37 = .ok (.invokespecial 13, 3) := by decide +kernel
theorem dX3_init_40 : decode cX3_init 40 = .ok (.putfield 23, 3) := by decide +kernel
theorem dX3_init_43 : decode cX3_init 43 = .ok (.aload_n 0, 1) := by decide +kernel
theorem dX3_init_44 : decode cX3_init 44 = .ok (.new 11, 3) := by decide +kernel
theorem dX3_init_47 : decode cX3_init 47 = .ok (.dup, 1) := by decide +kernel
theorem dX3_init_48 : decode cX3_init 48 = .ok (.bipush 40, 2) := by decide +kernel
theorem dX3_init_50 : decode cX3_init 50 = .ok (.invokespecial 13, 3) := by decide +kernel
theorem dX3_init_53 : decode cX3_init 53 = .ok (.putfield 26, 3) := by decide +kernel
theorem dX3_init_56 : decode cX3_init 56 = .ok (.aload_n 0, 1) := by decide +kernel
theorem dX3_init_57 : decode cX3_init 57 = .ok (.new 29, 3) := by decide +kernel
theorem dX3_init_60 : decode cX3_init 60 = .ok (.dup, 1) := by decide +kernel
theorem dX3_init_61 : decode cX3_init 61 = .ok (.bipush 20, 2) := by decide +kernel
theorem dX3_init_63 : decode cX3_init 63 = .ok (.sipush 1600, 3) := by decide +kernel
theorem dX3_init_66 : decode cX3_init 66 = .ok (.invokespecial 31, 3) := by decide +kernel
theorem dX3_init_69 : decode cX3_init 69 = .ok (.putfield 34, 3) := by decide +kernel
theorem dX3_init_72 : decode cX3_init 72 = .ok (.return_, 1) := by decide +kernel
theorem dX3_keyOf_0 : decode cX3_keyOf 0 = .ok (.iload_n 2, 1) := by decide +kernel
theorem dX3_keyOf_1 : decode cX3_keyOf 1 = .ok (.iconst 1, 1) := by decide +kernel
theorem dX3_keyOf_2 : decode cX3_keyOf 2 = .ok (.if_icmp .lt 8, 3) := by decide +kernel
theorem dX3_keyOf_5 : decode cX3_keyOf 5 = .ok (.iload_n 2, 1) := by decide +kernel
theorem dX3_keyOf_6 : decode cX3_keyOf 6 = .ok (.iconst 4, 1) := by decide +kernel
theorem dX3_keyOf_7 : decode cX3_keyOf 7 = .ok (.if_icmp .le 5, 3) := by decide +kernel
theorem dX3_keyOf_10 : decode cX3_keyOf 10 = .ok (.iconst 0, 1) := by decide +kernel
theorem dX3_keyOf_11 : decode cX3_keyOf 11 = .ok (.ireturn, 1) := by decide +kernel
theorem dX3_keyOf_12 : decode cX3_keyOf 12 = .ok (.iconst 0, 1) := by decide +kernel
theorem dX3_keyOf_13 : decode cX3_keyOf 13 = .ok (.istore_n 3, 1) := by decide +kernel
theorem dX3_keyOf_14 : decode cX3_keyOf 14 = .ok (.iconst 0, 1) := by decide +kernel
theorem dX3_keyOf_15 : decode cX3_keyOf 15 = .ok (.istore 4, 2) := by decide +kernel
theorem dX3_keyOf_17 : decode cX3_keyOf 17 = .ok (.iload 4, 2) := by decide +kernel
theorem dX3_keyOf_19 : decode cX3_keyOf 19 = .ok (.iconst 4, 1) := by decide +kernel
theorem dX3_keyOf_20 : decode cX3_keyOf 20 = .ok (.if_icmp .ge 41, 3) := by decide +kernel
theorem dX3_keyOf_23 : decode cX3_keyOf 23 = .ok (.iload 4, 2) := by decide +kernel
theorem dX3_keyOf_25 : decode cX3_keyOf 25 = .ok (.iload_n 2, 1) := by decide +kernel
theorem dX3_keyOf_26 : decode cX3_keyOf 26 = .ok (.if_icmp .ge 19, 3) := by decide +kernel
theorem dX3_keyOf_29 : decode cX3_keyOf 29 = .ok (.aload_n 0, 1) := by decide +kernel
theorem dX3_keyOf_30 : decode cX3_keyOf 30 = .ok (.iload_n 1, 1) := by decide +kernel
theorem dX3_keyOf_31 : decode cX3_keyOf 31 = .ok (.iload 4, 2) := by decide +kernel
theorem dX3_keyOf_33 : decode cX3_keyOf 33 = .ok (.iadd, 1) := by decide +kernel
theorem dX3_keyOf_34 : decode cX3_keyOf 34 = .ok (.invokevirtual 38, 3) := by decide +kernel
theorem dX3_keyOf_37 : decode cX3_keyOf 37 = .ok (.bipush 97, 2) := by decide +kernel
theorem dX3_keyOf_39 : decode cX3_keyOf 39 = .ok (.isub, 1) := by decide +kernel
theorem dX3_keyOf_40 : decode cX3_keyOf 40 = .ok (.iconst 1, 1) := by decide +kernel
theorem dX3_keyOf_41 : decode cX3_keyOf 41 = .ok (.iadd, 1) := by decide +kernel
theorem dX3_keyOf_42 : decode cX3_keyOf 42 = .ok (.goto 4, 3) := by decide +kernel
theorem dX3_keyOf_45 : decode cX3_keyOf 45 = .ok (.iconst 0, 1) := by decide +kernel
theorem dX3_keyOf_46 : decode cX3_keyOf 46 = .ok (.istore 5, 2) := by decide +kernel
theorem dX3_keyOf_48 : decode cX3_keyOf 48 = .ok (.iload_n 3, 1) := by decide +kernel
theorem dX3_keyOf_49 : decode cX3_keyOf 49 = .ok (.iconst 5, 1) := by decide +kernel
theorem dX3_keyOf_50 : decode cX3_keyOf 50 = .ok (.ishl, 1) := by decide +kernel
theorem dX3_keyOf_51 : decode cX3_keyOf 51 = .ok (.iload 5, 2) := by decide +kernel
theorem dX3_keyOf_53 : decode cX3_keyOf 53 = .ok (.ior, 1) := by decide +kernel
theorem dX3_keyOf_54 : decode cX3_keyOf 54 = .ok (.istore_n 3, 1) := by decide +kernel
theorem dX3_keyOf_55 : decode cX3_keyOf 55 = .ok (.iinc 4 1, 3) := by decide +kernel
theorem dX3_keyOf_58 : decode cX3_keyOf 58 = .ok (.goto (-41), 3) := by decide +kernel
theorem dX3_keyOf_61 : decode cX3_keyOf 61 = .ok (.iload_n 3, 1) := by decide +kernel
theorem dX3_keyOf_62 : decode cX3_keyOf 62 = .ok (.ireturn, 1) := by decide +kernel
theorem dX3_count_0 : decode cX3_count 0 = .ok (.aload_n 0, 1) := by decide +kernel
theorem dX3_count_1 : decode cX3_count 1 = .ok (.getfield 16, 3) := by decide +kernel
theorem dX3_count_4 : decode cX3_count 4 = .ok (.invokevirtual 42, 3) := by decide +kernel
theorem dX3_count_7 : decode cX3_count 7 = .ok (.ireturn, 1) := by decide +kernel
theorem dX3_isFull_0 : decode cX3_isFull 0 = .ok (.aload_n 0, 1) := by decide +kernel
theorem dX3_isFull_1 : decode cX3_isFull 1 = .ok (.getfield 16, 3) := by decide +kernel
theorem dX3_isFull_4 : decode cX3_isFull 4 = .ok (.invokevirtual 46, 3) := by decide +kernel
theorem dX3_isFull_7 : decode cX3_isFull 7 = .ok (.ireturn, 1) := by decide +kernel
theorem dX3_hasPlace_0 : decode cX3_hasPlace 0 = .ok (.iload_n 1, 1) := by decide +kernel
theorem dX3_hasPlace_1 : decode cX3_hasPlace 1 = .ok (.ifCond .lt 18, 3) := by decide +kernel
theorem dX3_hasPlace_4 : decode cX3_hasPlace 4 = .ok (.iload_n 1, 1) := by decide +kernel
theorem dX3_hasPlace_5 : decode cX3_hasPlace 5 = .ok (.aload_n 0, 1) := by decide +kernel
theorem dX3_hasPlace_6 : decode cX3_hasPlace 6 = .ok (.getfield 16, 3) := by decide +kernel
theorem dX3_hasPlace_9 : decode cX3_hasPlace 9 = .ok (.invokevirtual 42, 3) := by decide +kernel
theorem dX3_hasPlace_12 : decode cX3_hasPlace 12 = .ok (.if_icmp .ge 7, 3) := by decide +kernel
theorem dX3_hasPlace_15 : decode cX3_hasPlace 15 = .ok (.iconst 1, 1) := by decide +kernel
theorem dX3_hasPlace_16 : decode cX3_hasPlace 16 = .ok (.goto 4, 3) := by decide +kernel
theorem dX3_hasPlace_19 : decode cX3_hasPlace 19 = .ok (.iconst 0, 1) := by decide +kernel
theorem dX3_hasPlace_20 : decode cX3_hasPlace 20 = .ok (.ireturn, 1) := by decide +kernel
theorem dX3_placeOf_0 : decode cX3_placeOf 0 = .ok (.aload_n 0, 1) := by decide +kernel
theorem dX3_placeOf_1 : decode cX3_placeOf 1 = .ok (.getfield 16, 3) := by decide +kernel
theorem dX3_placeOf_4 : decode cX3_placeOf 4 = .ok (.iload_n 1, 1) := by decide +kernel
theorem dX3_placeOf_5 : decode cX3_placeOf 5 = .ok (.invokevirtual 50, 3) := by decide +kernel
theorem dX3_placeOf_8 : decode cX3_placeOf 8 = .ok (.ireturn, 1) := by decide +kernel
theorem dX3_insert_0 : decode cX3_insert 0 = .ok (.iconst 0, 1) := by decide +kernel
theorem dX3_insert_1 : decode cX3_insert 1 = .ok (.istore 5, 2) := by decide +kernel
theorem dX3_insert_3 : decode cX3_insert 3 = .ok (.iconst 0, 1) := by decide +kernel
theorem dX3_insert_4 : decode cX3_insert 4 = .ok (.istore 6, 2) := by decide +kernel
theorem dX3_insert_6 : decode cX3_insert 6 = .ok (.iload 6, 2) := by decide +kernel
theorem dX3_insert_8 : decode cX3_insert 8 = .ok (.aload_n 0, 1) := by decide +kernel
theorem dX3_insert_9 : decode cX3_insert 9 = .ok (.getfield 16, 3) := by decide +kernel
theorem dX3_insert_12 : decode cX3_insert 12 = .ok (.invokevirtual 42, 3) := by decide +kernel
theorem dX3_insert_15 : decode cX3_insert 15 = .ok (.if_icmp .ge 28, 3) := by decide +kernel
theorem dX3_insert_18 : decode cX3_insert 18 = .ok (.aload_n 0, 1) := by decide +kernel
theorem dX3_insert_19 : decode cX3_insert 19 = .ok (.getfield 16, 3) := by decide +kernel
theorem dX3_insert_22 : decode cX3_insert 22 = .ok (.iload 6, 2) := by decide +kernel
theorem dX3_insert_24 : decode cX3_insert 24 = .ok (.invokevirtual 38, 3) := by decide +kernel
theorem dX3_insert_27 : decode cX3_insert 27 = .ok (.iload_n 1, 1) := by decide +kernel
theorem dX3_insert_28 : decode cX3_insert 28 = .ok (.if_icmp .ge 9, 3) := by decide +kernel
theorem dX3_insert_31 : decode cX3_insert 31 = .ok (.iload 6, 2) := by decide +kernel
theorem dX3_insert_33 : decode cX3_insert 33 = .ok (.iconst 1, 1) := by decide +kernel
theorem dX3_insert_34 : decode cX3_insert 34 = .ok (.iadd, 1) := by decide +kernel
theorem dX3_insert_35 : decode cX3_insert 35 = .ok (.istore 5, 2) := by decide +kernel
theorem dX3_insert_37 : decode cX3_insert 37 = .ok (.iinc 6 1, 3) := by decide +kernel
theorem dX3_insert_40 : decode cX3_insert 40 = .ok (.goto (-34), 3) := by decide +kernel
theorem dX3_insert_43 : decode cX3_insert 43 = .ok (.aload_n 0, 1) := by decide +kernel
theorem dX3_insert_44 : decode cX3_insert 44 = .ok (.getfield 16, 3) := by decide +kernel
theorem dX3_insert_47 : decode cX3_insert 47 = .ok (.iload 5, 2) := by decide +kernel
theorem dX3_insert_49 : decode cX3_insert 49 = .ok (.iload_n 1, 1) := by decide +kernel
theorem dX3_insert_50 : decode cX3_insert 50 = .ok (.invokevirtual 53, 3) := by decide +kernel
theorem dX3_insert_53 : decode cX3_insert 53 = .ok (.aload_n 0, 1) := by decide +kernel
theorem dX3_insert_54 : decode cX3_insert 54 = .ok (.getfield 20, 3) := by decide +kernel
theorem dX3_insert_57 : decode cX3_insert 57 = .ok (.iload 5, 2) := by decide +kernel
theorem dX3_insert_59 : decode cX3_insert 59 = .ok (.iload_n 2, 1) := by decide +kernel
theorem dX3_insert_60 : decode cX3_insert 60 = .ok (.invokevirtual 53, 3) := by decide +kernel
theorem dX3_insert_63 : decode cX3_insert 63 = .ok (.aload_n 0, 1) := by decide +kernel
theorem dX3_insert_64 : decode cX3_insert 64 = .ok (.getfield 23, 3) := by decide +kernel
theorem dX3_insert_67 : decode cX3_insert 67 = .ok (.iload 5, 2) := by decide +kernel
theorem dX3_insert_69 : decode cX3_insert 69 = .ok (.iload_n 3, 1) := by decide +kernel
theorem dX3_insert_70 : decode cX3_insert 70 = .ok (.invokevirtual 53, 3) := by decide +kernel
theorem dX3_insert_73 : decode cX3_insert 73 = .ok (.aload_n 0, 1) := by decide +kernel
theorem dX3_insert_74 : decode cX3_insert 74 = .ok (.getfield 26, 3) := by decide +kernel
theorem dX3_insert_77 : decode cX3_insert 77 = .ok (.iload 5, 2) := by decide +kernel
theorem dX3_insert_79 : decode cX3_insert 79 = .ok (.iload 4, 2) := by decide +kernel
theorem dX3_insert_81 : decode cX3_insert 81 = .ok (.invokevirtual 53, 3) := by decide +kernel
theorem dX3_insert_84 : decode cX3_insert 84 = .ok (.iload 5, 2) := by decide +kernel
theorem dX3_insert_86 : decode cX3_insert 86 = .ok (.ireturn, 1) := by decide +kernel
theorem dX3_alter_0 : decode cX3_alter 0 = .ok (.aload_n 0, 1) := by decide +kernel
theorem dX3_alter_1 : decode cX3_alter 1 = .ok (.getfield 20, 3) := by decide +kernel
theorem dX3_alter_4 : decode cX3_alter 4 = .ok (.iload_n 1, 1) := by decide +kernel
theorem dX3_alter_5 : decode cX3_alter 5 = .ok (.iload_n 2, 1) := by decide +kernel
theorem dX3_alter_6 : decode cX3_alter 6 = .ok (.invokevirtual 56, 3) := by decide +kernel
theorem dX3_alter_9 : decode cX3_alter 9 = .ok (.aload_n 0, 1) := by decide +kernel
theorem dX3_alter_10 : decode cX3_alter 10 = .ok (.getfield 23, 3) := by decide +kernel
theorem dX3_alter_13 : decode cX3_alter 13 = .ok (.iload_n 1, 1) := by decide +kernel
theorem dX3_alter_14 : decode cX3_alter 14 = .ok (.iload_n 3, 1) := by decide +kernel
theorem dX3_alter_15 : decode cX3_alter 15 = .ok (.invokevirtual 56, 3) := by decide +kernel
theorem dX3_alter_18 : decode cX3_alter 18 = .ok (.aload_n 0, 1) := by decide +kernel
theorem dX3_alter_19 : decode cX3_alter 19 = .ok (.getfield 26, 3) := by decide +kernel
theorem dX3_alter_22 : decode cX3_alter 22 = .ok (.iload_n 1, 1) := by decide +kernel
theorem dX3_alter_23 : decode cX3_alter 23 = .ok (.iload 4, 2) := by decide +kernel
theorem dX3_alter_25 : decode cX3_alter 25 = .ok (.invokevirtual 56, 3) := by decide +kernel
theorem dX3_alter_28 : decode cX3_alter 28 = .ok (.return_, 1) := by decide +kernel
theorem dX3_takeAway_0 : decode cX3_takeAway 0 = .ok (.aload_n 0, 1) := by decide +kernel
theorem dX3_takeAway_1 : decode cX3_takeAway 1 = .ok (.getfield 16, 3) := by decide +kernel
theorem dX3_takeAway_4 : decode cX3_takeAway 4 = .ok (.iload_n 1, 1) := by decide +kernel
theorem dX3_takeAway_5 : decode cX3_takeAway 5 = .ok (.invokevirtual 59, 3) := by decide +kernel
theorem dX3_takeAway_8 : decode cX3_takeAway 8 = .ok (.aload_n 0, 1) := by decide +kernel
theorem dX3_takeAway_9 : decode cX3_takeAway 9 = .ok (.getfield 20, 3) := by decide +kernel
theorem dX3_takeAway_12 : decode cX3_takeAway 12 = .ok (.iload_n 1, 1) := by decide +kernel
theorem dX3_takeAway_13 : decode cX3_takeAway 13 = .ok (.invokevirtual 59, 3) := by decide +kernel
theorem dX3_takeAway_16 : decode cX3_takeAway 16 = .ok (.aload_n 0, 1) := by decide +kernel
theorem dX3_takeAway_17 : decode cX3_takeAway 17 = .ok (.getfield 23, 3) := by decide +kernel
theorem dX3_takeAway_20 : decode cX3_takeAway 20 = .ok (.iload_n 1, 1) := by decide +kernel
theorem dX3_takeAway_21 : decode cX3_takeAway 21 = .ok (.invokevirtual 59, 3) := by decide +kernel
theorem dX3_takeAway_24 : decode cX3_takeAway 24 = .ok (.aload_n 0, 1) := by decide +kernel
theorem dX3_takeAway_25 : decode cX3_takeAway 25 = .ok (.getfield 26, 3) := by decide +kernel
theorem dX3_takeAway_28 : decode cX3_takeAway 28 = .ok (.iload_n 1, 1) := by decide +kernel
theorem dX3_takeAway_29 : decode cX3_takeAway 29 = .ok (.invokevirtual 59, 3) := by decide +kernel
theorem dX3_takeAway_32 : decode cX3_takeAway 32 = .ok (.return_, 1) := by decide +kernel
theorem dX3_letterAt_0 : decode cX3_letterAt 0 = .ok (.iload_n 2, 1) := by decide +kernel
theorem dX3_letterAt_1 : decode cX3_letterAt 1 = .ok (.ifCond .lt 8, 3) := by decide +kernel
theorem dX3_letterAt_4 : decode cX3_letterAt 4 = .ok (.iload_n 2, 1) := by decide +kernel
theorem dX3_letterAt_5 : decode cX3_letterAt 5 = .ok (.iconst 4, 1) := by decide +kernel
theorem dX3_letterAt_6 : decode cX3_letterAt 6 = .ok (.if_icmp .lt 5, 3) := by decide +kernel
theorem dX3_letterAt_9 : decode cX3_letterAt 9 = .ok (.iconst (-1), 1) := by decide +kernel
theorem dX3_letterAt_10 : decode cX3_letterAt 10 = .ok (.ireturn, 1) := by decide +kernel
theorem dX3_letterAt_11 : decode cX3_letterAt 11 = .ok (.iconst 3, 1) := by decide +kernel
theorem dX3_letterAt_12 : decode cX3_letterAt 12 = .ok (.iload_n 2, 1) := by decide +kernel
theorem dX3_letterAt_13 : decode cX3_letterAt 13 = .ok (.isub, 1) := by decide +kernel
theorem dX3_letterAt_14 : decode cX3_letterAt 14 = .ok (.istore_n 3, 1) := by decide +kernel
theorem dX3_letterAt_15 : decode cX3_letterAt 15 = .ok (.aload_n 0, 1) := by decide +kernel
theorem dX3_letterAt_16 : decode cX3_letterAt 16 = .ok (.getfield 16, 3) := by decide +kernel
theorem dX3_letterAt_19 : decode cX3_letterAt 19 = .ok (.iload_n 1, 1) := by decide +kernel
theorem dX3_letterAt_20 : decode cX3_letterAt 20 = .ok (.invokevirtual 38, 3) := by decide +kernel
theorem dX3_letterAt_23 : decode cX3_letterAt 23 = .ok (.iload_n 3, 1) := by decide +kernel
theorem dX3_letterAt_24 : decode cX3_letterAt 24 = .ok (.iconst 5, 1) := by decide +kernel
theorem dX3_letterAt_25 : decode cX3_letterAt 25 = .ok (.imul, 1) := by decide +kernel
theorem dX3_letterAt_26 : decode cX3_letterAt 26 = .ok (.ishr, 1) := by decide +kernel
theorem dX3_letterAt_27 : decode cX3_letterAt 27 = .ok (.bipush 31, 2) := by decide +kernel
theorem dX3_letterAt_29 : decode cX3_letterAt 29 = .ok (.iand, 1) := by decide +kernel
theorem dX3_letterAt_30 : decode cX3_letterAt 30 = .ok (.istore 4, 2) := by decide +kernel
theorem dX3_letterAt_32 : decode cX3_letterAt 32 = .ok (.iload 4, 2) := by decide +kernel
theorem dX3_letterAt_34 : decode cX3_letterAt 34 = .ok (.ifCond .ne 7, 3) := by decide +kernel
theorem dX3_letterAt_37 : decode cX3_letterAt 37 = .ok (.iconst (-1), 1) := by decide +kernel
theorem dX3_letterAt_38 : decode cX3_letterAt 38 = .ok (.goto 10, 3) := by decide +kernel
theorem dX3_letterAt_41 : decode cX3_letterAt 41 = .ok (.bipush 97, 2) := by decide +kernel
theorem dX3_letterAt_43 : decode cX3_letterAt 43 = .ok (.iload 4, 2) := by decide +kernel
theorem dX3_letterAt_45 : decode cX3_letterAt 45 = .ok (.iadd, 1) := by decide +kernel
theorem dX3_letterAt_46 : decode cX3_letterAt 46 = .ok (.iconst 1, 1) := by decide +kernel
theorem dX3_letterAt_47 : decode cX3_letterAt 47 = .ok (.isub, 1) := by decide +kernel
theorem dX3_letterAt_48 : decode cX3_letterAt 48 = .ok (.ireturn, 1) := by decide +kernel
theorem dX3_isInOrder_0 : decode cX3_isInOrder 0 = .ok (.iconst 1, 1) := by decide +kernel
theorem dX3_isInOrder_1 : decode cX3_isInOrder 1 = .ok (.istore_n 1, 1) := by decide +kernel
theorem dX3_isInOrder_2 : decode cX3_isInOrder 2 = .ok (.iload_n 1, 1) := by decide +kernel
theorem dX3_isInOrder_3 : decode cX3_isInOrder 3 = .ok (.aload_n 0, 1) := by decide +kernel
theorem dX3_isInOrder_4 : decode cX3_isInOrder 4 = .ok (.getfield 16, 3) := by decide +kernel
theorem dX3_isInOrder_7 : decode cX3_isInOrder 7 = .ok (.invokevirtual 42, 3) := by decide +kernel
theorem dX3_isInOrder_10 : decode cX3_isInOrder 10 = .ok (.if_icmp .ge 32, 3) := by decide +kernel
theorem dX3_isInOrder_13 : decode cX3_isInOrder 13 = .ok (.aload_n 0, 1) := by decide +kernel
theorem dX3_isInOrder_14 : decode cX3_isInOrder 14 = .ok (.getfield 16, 3) := by decide +kernel
theorem dX3_isInOrder_17 : decode cX3_isInOrder 17 = .ok (.iload_n 1, 1) := by decide +kernel
theorem dX3_isInOrder_18 : decode cX3_isInOrder 18 = .ok (.iconst 1, 1) := by decide +kernel
theorem dX3_isInOrder_19 : decode cX3_isInOrder 19 = .ok (.isub, 1) := by decide +kernel
theorem dX3_isInOrder_20 : decode cX3_isInOrder 20 = .ok (.invokevirtual 38, 3) := by decide +kernel
theorem dX3_isInOrder_23 : decode cX3_isInOrder 23 = .ok (.aload_n 0, 1) := by decide +kernel
theorem dX3_isInOrder_24 : decode cX3_isInOrder 24 = .ok (.getfield 16, 3) := by decide +kernel
theorem dX3_isInOrder_27 : decode cX3_isInOrder 27 = .ok (.iload_n 1, 1) := by decide +kernel
theorem dX3_isInOrder_28 : decode cX3_isInOrder 28 = .ok (.invokevirtual 38, 3) := by decide +kernel
theorem dX3_isInOrder_31 : decode cX3_isInOrder 31 = .ok (.if_icmp .lt 5, 3) := by decide +kernel
theorem dX3_isInOrder_34 : decode cX3_isInOrder 34 = .ok (.iconst 0, 1) := by decide +kernel
theorem dX3_isInOrder_35 : decode cX3_isInOrder 35 = .ok (.ireturn, 1) := by decide +kernel
theorem dX3_isInOrder_36 : decode cX3_isInOrder 36 = .ok (.iinc 1 1, 3) := by decide +kernel
theorem dX3_isInOrder_39 : decode cX3_isInOrder 39 = .ok (.goto (-37), 3) := by decide +kernel
theorem dX3_isInOrder_42 : decode cX3_isInOrder 42 = .ok (.iconst 1, 1) := by decide +kernel
theorem dX3_isInOrder_43 : decode cX3_isInOrder 43 = .ok (.ireturn, 1) := by decide +kernel
theorem dX3_placeOfException_0 : decode cX3_placeOfException 0 = .ok (.iconst 0, 1) := by decide +kernel
theorem dX3_placeOfException_1 : decode cX3_placeOfException 1 = .ok (.istore 4, 2) := by decide +kernel
theorem dX3_placeOfException_3 : decode cX3_placeOfException 3 = .ok (.iload 4, 2) := by decide +kernel
theorem dX3_placeOfException_5 : decode cX3_placeOfException 5 = .ok (.aload_n 0, 1) := by decide +kernel
theorem dX3_placeOfException_6 : decode cX3_placeOfException 6 = .ok (.getfield 34, 3) := by decide +kernel
theorem dX3_placeOfException_9 : decode cX3_placeOfException 9 = .ok (.invokevirtual 62, 3) := by decide +kernel
theorem dX3_placeOfException_12 : decode cX3_placeOfException 12 = .ok (.if_icmp .ge 27, 3) := by decide +kernel
theorem dX3_placeOfException_15 : decode cX3_placeOfException 15 = .ok (.aload_n 0, 1) := by decide +kernel
theorem dX3_placeOfException_16 : decode cX3_placeOfException 16 = .ok (.getfield 34, 3) := by decide +kernel
theorem dX3_placeOfException_19 : decode cX3_placeOfException 19 = .ok (.iload 4, 2) := by decide +kernel
theorem dX3_placeOfException_21 : decode cX3_placeOfException 21 = .ok (.aload_n 1, 1) := by decide +kernel
theorem dX3_placeOfException_22 : decode cX3_placeOfException 22 = .ok (.iload_n 2, 1) := by decide +kernel
theorem dX3_placeOfException_23 : decode cX3_placeOfException 23 = .ok (.iload_n 3, 1) := by decide +kernel
theorem dX3_placeOfException_24 : decode cX3_placeOfException 24 = .ok (.invokevirtual 63, 3) := by decide +kernel
theorem dX3_placeOfException_27 : decode cX3_placeOfException 27 = .ok (.ifCond .eq 6, 3) := by decide +kernel
theorem dX3_placeOfException_30 : decode cX3_placeOfException 30 = .ok (.iload 4, 2) := by decide +kernel
theorem dX3_placeOfException_32 : decode cX3_placeOfException 32 = .ok (.ireturn, 1) := by decide +kernel
theorem dX3_placeOfException_33 : decode cX3_placeOfException 33 = .ok (.iinc 4 1, 3) := by decide +kernel
theorem dX3_placeOfException_36 : decode cX3_placeOfException 36 = .ok (.goto (-33), 3) := by decide +kernel
theorem dX3_placeOfException_39 : decode cX3_placeOfException 39 = .ok (.iconst (-1), 1) := by decide +kernel
theorem dX3_placeOfException_40 : decode cX3_placeOfException 40 = .ok (.ireturn, 1) := by decide +kernel
theorem dX3_isFullOfExceptions_0 : decode cX3_isFullOfExceptions 0 = .ok (.aload_n 0, 1) := by decide +kernel
theorem dX3_isFullOfExceptions_1 : decode cX3_isFullOfExceptions 1 = .ok (.getfield 34, 3) := by decide +kernel
theorem dX3_isFullOfExceptions_4 : decode cX3_isFullOfExceptions 4 = .ok (.invokevirtual 62, 3) := by decide +kernel
theorem dX3_isFullOfExceptions_7 : decode cX3_isFullOfExceptions 7 = .ok (.bipush 20, 2) := by decide +kernel
theorem dX3_isFullOfExceptions_9 : decode cX3_isFullOfExceptions 9 = .ok (.if_icmp .lt 7, 3) := by decide +kernel
theorem dX3_isFullOfExceptions_12 : decode cX3_isFullOfExceptions 12 = .ok (.iconst 1, 1) := by decide +kernel
theorem dX3_isFullOfExceptions_13 : decode cX3_isFullOfExceptions 13 = .ok (.goto 4, 3) := by decide +kernel
theorem dX3_isFullOfExceptions_16 : decode cX3_isFullOfExceptions 16 = .ok (.iconst 0, 1) := by decide +kernel
theorem dX3_isFullOfExceptions_17 : decode cX3_isFullOfExceptions 17 = .ok (.ireturn, 1) := by decide +kernel
theorem dX3_addException_0 : decode cX3_addException 0 = .ok (.iconst 0, 1) := by decide +kernel
theorem dX3_addException_1 : decode cX3_addException 1 = .ok (.istore_n 2, 1) := by decide +kernel
theorem dX3_addException_2 : decode cX3_addException 2 = .ok (.iload_n 2, 1) := by decide +kernel
theorem dX3_addException_3 : decode cX3_addException 3 = .ok (.aload_n 1, 1) := by decide +kernel
theorem dX3_addException_4 : decode cX3_addException 4 = .ok (.invokevirtual 42, 3) := by decide +kernel
theorem dX3_addException_7 : decode cX3_addException 7 = .ok (.if_icmp .ge 21, 3) := by decide +kernel
theorem dX3_addException_10 : decode cX3_addException 10 = .ok (.aload_n 0, 1) := by decide +kernel
theorem dX3_addException_11 : decode cX3_addException 11 = .ok (.getfield 34, 3) := by decide +kernel
theorem dX3_addException_14 : decode cX3_addException 14 = .ok (.aload_n 1, 1) := by decide +kernel
theorem dX3_addException_15 : decode cX3_addException 15 = .ok (.iload_n 2, 1) := by decide +kernel
theorem dX3_addException_16 : decode cX3_addException 16 = .ok (.invokevirtual 38, 3) := by decide +kernel
theorem dX3_addException_19 : decode cX3_addException 19 = .ok (.invokevirtual 67, 3) := by decide +kernel
theorem dX3_addException_22 : decode cX3_addException 22 = .ok (.iinc 2 1, 3) := by decide +kernel
theorem dX3_addException_25 : decode cX3_addException 25 = .ok (.goto (-23), 3) := by decide +kernel
theorem dX3_addException_28 : decode cX3_addException 28 = .ok (.aload_n 0, 1) := by decide +kernel
theorem dX3_addException_29 : decode cX3_addException 29 = .ok (.getfield 34, 3) := by decide +kernel
theorem dX3_addException_32 : decode cX3_addException 32 = .ok (.invokevirtual 70, 3) := by decide +kernel
theorem dX3_addException_35 : decode cX3_addException 35 = .ok (.return_, 1) := by decide +kernel
theorem dX3_dropException_0 : decode cX3_dropException 0 = .ok (.aload_n 0, 1) := by decide +kernel
theorem dX3_dropException_1 : decode cX3_dropException 1 = .ok (.getfield 34, 3) := by decide +kernel
theorem dX3_dropException_4 : decode cX3_dropException 4 = .ok (.iload_n 1, 1) := by decide +kernel
theorem dX3_dropException_5 : decode cX3_dropException 5 = .ok (.invokevirtual 73, 3) := by decide +kernel
theorem dX3_dropException_8 : decode cX3_dropException 8 = .ok (.return_, 1) := by decide +kernel
theorem dX3_translate_0 : decode cX3_translate 0 = .ok (.aload_n 0, 1) := by decide +kernel
theorem dX3_translate_1 : decode cX3_translate 1 = .ok (.aload_n 1, 1) := by decide +kernel
theorem dX3_translate_2 : decode cX3_translate 2 = .ok (.iload_n 2, 1) := by decide +kernel
theorem dX3_translate_3 : decode cX3_translate 3 = .ok (.iload_n 3, 1) := by decide +kernel
theorem dX3_translate_4 : decode cX3_translate 4 = .ok (.invokevirtual 76, 3) := by decide +kernel
theorem dX3_translate_7 : decode cX3_translate 7 = .ok (.iconst (-1), 1) := by decide +kernel
theorem dX3_translate_8 : decode cX3_translate 8 = .ok (.if_icmp .eq 7, 3) := by decide +kernel
theorem dX3_translate_11 : decode cX3_translate 11 = .ok (.iconst 1, 1) := by decide +kernel
theorem dX3_translate_12 : decode cX3_translate 12 = .ok (.goto 4, 3) := by decide +kernel
theorem dX3_translate_15 : decode cX3_translate 15 = .ok (.iconst 0, 1) := by decide +kernel
theorem dX3_translate_16 : decode cX3_translate 16 = .ok (.istore 6, 2) := by decide +kernel
theorem dX3_translate_18 : decode cX3_translate 18 = .ok (.iload 6, 2) := by decide +kernel
theorem dX3_translate_20 : decode cX3_translate 20 = .ok (.ifCond .eq 7, 3) := by decide +kernel
theorem dX3_translate_23 : decode cX3_translate 23 = .ok (.iconst 1, 1) := by decide +kernel
theorem dX3_translate_24 : decode cX3_translate 24 = .ok (.goto 4, 3) := by decide +kernel
theorem dX3_translate_27 : decode cX3_translate 27 = .ok (.iconst 4, 1) := by decide +kernel
theorem dX3_translate_28 : decode cX3_translate 28 = .ok (.istore 7, 2) := by decide +kernel
theorem dX3_translate_30 : decode cX3_translate 30 = .ok (.iload_n 2, 1) := by decide +kernel
theorem dX3_translate_31 : decode cX3_translate 31 = .ok (.istore 8, 2) := by decide +kernel
theorem dX3_translate_33 : decode cX3_translate 33 = .ok (.iload_n 2, 1) := by decide +kernel
theorem dX3_translate_34 : decode cX3_translate 34 = .ok (.istore 9, 2) := by decide +kernel
theorem dX3_translate_36 : decode cX3_translate 36 = .ok (.iload 9, 2) := by decide +kernel
theorem dX3_translate_38 : decode cX3_translate 38 = .ok (.iload_n 3, 1) := by decide +kernel
theorem dX3_translate_39 : decode cX3_translate 39 = .ok (.if_icmp .ge 45, 3) := by decide +kernel
theorem dX3_translate_42 : decode cX3_translate 42 = .ok (.iload 9, 2) := by decide +kernel
theorem dX3_translate_44 : decode cX3_translate 44 = .ok (.iload 8, 2) := by decide +kernel
theorem dX3_translate_46 : decode cX3_translate 46 = .ok (.if_icmp .ne 32, 3) := by decide +kernel
theorem dX3_translate_49 : decode cX3_translate 49 = .ok (.iload 7, 2) := by decide +kernel
theorem dX3_translate_51 : decode cX3_translate 51 = .ok (.iload_n 3, 1) := by decide +kernel
theorem dX3_translate_52 : decode cX3_translate 52 = .ok (.iload 9, 2) := by decide +kernel
theorem dX3_translate_54 : decode cX3_translate 54 = .ok (.isub, 1) := by decide +kernel
theorem dX3_translate_55 : decode cX3_translate 55 = .ok (.invokestatic 80, 3) := by decide +kernel
theorem dX3_translate_58 : decode cX3_translate 58 = .ok (.istore 10, 2) := by decide +kernel
theorem dX3_translate_60 : decode cX3_translate 60 = .ok (.iload 8, 2) := by decide +kernel
theorem dX3_translate_62 : decode cX3_translate 62 = .ok (.aload_n 0, 1) := by decide +kernel
theorem dX3_translate_63 : decode cX3_translate 63 = .ok (.aload_n 1, 1) := by decide +kernel
theorem dX3_translate_64 : decode cX3_translate 64 = .ok (.iload 9, 2) := by decide +kernel
theorem dX3_translate_66 : decode cX3_translate 66 = .ok (.iload 10, 2) := by decide +kernel
theorem dX3_translate_68 : decode cX3_translate 68 = .ok (.iload 4, 2) := by decide +kernel
theorem dX3_translate_70 : decode cX3_translate 70 = .ok (.aload 5, 2) := by decide +kernel
theorem dX3_translate_72 : decode cX3_translate 72 = .ok (.invokevirtual 86, 3) := by decide +kernel
theorem dX3_translate_75 : decode cX3_translate 75 = .ok (.iadd, 1) := by decide +kernel
theorem dX3_translate_76 : decode cX3_translate 76 = .ok (.istore 8, 2) := by decide +kernel
theorem dX3_translate_78 : decode cX3_translate 78 = .ok (.iinc 9 1, 3) := by decide +kernel
theorem dX3_translate_81 : decode cX3_translate 81 = .ok (.goto (-45), 3) := by decide +kernel
theorem dX3_translate_84 : decode cX3_translate 84 = .ok (.return_, 1) := by decide +kernel
theorem dX3_addCells_0 : decode cX3_addCells 0 = .ok (.iload_n 3, 1) := by decide +kernel
theorem dX3_addCells_1 : decode cX3_addCells 1 = .ok (.istore 6, 2) := by decide +kernel
theorem dX3_addCells_3 : decode cX3_addCells 3 = .ok (.iload 6, 2) := by decide +kernel
theorem dX3_addCells_5 : decode cX3_addCells 5 = .ok (.iconst 1, 1) := by decide +kernel
theorem dX3_addCells_6 : decode cX3_addCells 6 = .ok (.if_icmp .lt 88, 3) := by decide +kernel
theorem dX3_addCells_9 : decode cX3_addCells 9 = .ok (.aload_n 0, 1) := by decide +kernel
theorem dX3_addCells_10 : decode cX3_addCells 10 = .ok (.getfield 16, 3) := by decide +kernel
theorem dX3_addCells_13 : decode cX3_addCells 13 = .ok (.aload_n 1, 1) := by decide +kernel
theorem dX3_addCells_14 : decode cX3_addCells 14 = .ok (.iload_n 2, 1) := by decide +kernel
theorem dX3_addCells_15 : decode cX3_addCells 15 = .ok (.iload 6, 2) := by decide +kernel
theorem dX3_addCells_17 : decode cX3_addCells 17 = .ok (.invokestatic 90, 3) := by decide +kernel
theorem dX3_addCells_20 : decode cX3_addCells 20 = .ok (.invokevirtual 50, 3) := by decide +kernel
theorem dX3_addCells_23 : decode cX3_addCells 23 = .ok (.istore 7, 2) := by decide +kernel
theorem dX3_addCells_25 : decode cX3_addCells 25 = .ok (.iload 7, 2) := by decide +kernel
theorem dX3_addCells_27 : decode cX3_addCells 27 = .ok (.iconst (-1), 1) := by decide +kernel
theorem dX3_addCells_28 : decode cX3_addCells 28 = .ok (.if_icmp .eq 60, 3) := by decide +kernel
theorem dX3_addCells_31 : decode cX3_addCells 31 = .ok (.aload_n 0, 1) := by decide +kernel
theorem dX3_addCells_32 : decode cX3_addCells 32 = .ok (.getfield 20, 3) := by decide +kernel
theorem dX3_addCells_35 : decode cX3_addCells 35 = .ok (.iload 7, 2) := by decide +kernel
theorem dX3_addCells_37 : decode cX3_addCells 37 = .ok (.invokevirtual 38, 3) := by decide +kernel
theorem dX3_addCells_40 : decode cX3_addCells 40 = .ok (.iload 4, 2) := by decide +kernel
theorem dX3_addCells_42 : decode cX3_addCells 42 = .ok (.if_icmp .gt 46, 3) := by decide +kernel
theorem dX3_addCells_45 : decode cX3_addCells 45 = .ok (.aload 5, 2) := by decide +kernel
theorem dX3_addCells_47 : decode cX3_addCells 47 = .ok (.aload_n 0, 1) := by decide +kernel
theorem dX3_addCells_48 : decode cX3_addCells 48 = .ok (.getfield 23, 3) := by decide +kernel
theorem dX3_addCells_51 : decode cX3_addCells 51 = .ok (.iload 7, 2) := by decide +kernel
theorem dX3_addCells_53 : decode cX3_addCells 53 = .ok (.invokevirtual 38, 3) := by decide +kernel
theorem dX3_addCells_56 : decode cX3_addCells 56 = .ok (.invokevirtual 67, 3) := by decide +kernel
theorem dX3_addCells_59 : decode cX3_addCells 59 = .ok (.aload_n 0, 1) := by decide +kernel
theorem dX3_addCells_60 : decode cX3_addCells 60 = .ok (.getfield 26, 3) := by decide +kernel
theorem dX3_addCells_63 : decode cX3_addCells 63 = .ok (.iload 7, 2) := by decide +kernel
theorem dX3_addCells_65 : decode cX3_addCells 65 = .ok (.invokevirtual 38, 3) := by decide +kernel
theorem dX3_addCells_68 : decode cX3_addCells 68 = .ok (.ifCond .eq 17, 3) := by decide +kernel
theorem dX3_addCells_71 : decode cX3_addCells 71 = .ok (.aload 5, 2) := by decide +kernel
theorem dX3_addCells_73 : decode cX3_addCells 73 = .ok (.aload_n 0, 1) := by decide +kernel
theorem dX3_addCells_74 : decode cX3_addCells 74 = .ok (.getfield 26, 3) := by decide +kernel
theorem dX3_addCells_77 : decode cX3_addCells 77 = .ok (.iload 7, 2) := by decide +kernel
theorem dX3_addCells_79 : decode cX3_addCells 79 = .ok (.invokevirtual 38, 3) := by decide +kernel
theorem dX3_addCells_82 : decode cX3_addCells 82 = .ok (.invokevirtual 67, 3) := by decide +kernel
theorem dX3_addCells_85 : decode cX3_addCells 85 = .ok (.iload 6, 2) := by decide +kernel
theorem dX3_addCells_87 : decode cX3_addCells 87 = .ok (.ireturn, 1) := by decide +kernel
theorem dX3_addCells_88 : decode cX3_addCells 88 = .ok (.iinc 6 (-1), 3) := by decide +kernel
theorem dX3_addCells_91 : decode cX3_addCells 91 = .ok (.goto (-88), 3) := by decide +kernel
theorem dX3_addCells_94 : decode cX3_addCells 94 = .ok (.aload 5, 2) := by decide +kernel
theorem dX3_addCells_96 : decode cX3_addCells 96 = .ok (.bipush 63, 2) := by decide +kernel
theorem dX3_addCells_98 : decode cX3_addCells 98 = .ok (.invokevirtual 67, 3) := by decide +kernel
theorem dX3_addCells_101 : decode cX3_addCells 101 = .ok (.iconst 1, 1) := by decide +kernel
theorem dX3_addCells_102 : decode cX3_addCells 102 = .ok (.ireturn, 1) := by decide +kernel
theorem dX4_init_0 : decode cX4_init 0 = .ok (.aload_n 0, 1) := by decide +kernel
theorem dX4_init_1 : decode cX4_init 1 = .ok (.invokespecial 3, 3) := by decide +kernel
theorem dX4_init_4 : decode cX4_init 4 = .ok (.aload_n 0, 1) := by decide +kernel
theorem dX4_init_5 : decode cX4_init 5 = .ok (.new 9, 3) := by decide +kernel
theorem dX4_init_8 : decode cX4_init 8 = .ok (.dup, 1) := by decide +kernel
theorem dX4_init_9 : decode cX4_init 9 = .ok (.bipush 40, 2) := by decide +kernel
theorem dX4_init_11 : decode cX4_init 11 = .ok (.bipush 80, 2) := by decide +kernel
theorem dX4_init_13 : decode cX4_init 13 = .ok (.invokespecial 11, 3) := by decide +kernel
theorem dX4_init_16 : decode cX4_init 16 = .ok (.putfield 14, 3) := by decide +kernel
theorem dX4_init_19 : decode cX4_init 19 = .ok (.aload_n 0, 1) := by decide +kernel
theorem dX4_init_20 : decode cX4_init 20 = .ok (.new 9, 3) := by decide +kernel
theorem dX4_init_23 : decode cX4_init 23 = .ok (.dup, 1) := by decide +kernel
theorem dX4_init_24 : decode cX4_init 24 = .ok (.bipush 40, 2) := by decide +kernel
theorem dX4_init_26 : decode cX4_init 26 = .ok (.sipush 160, 3) := by decide +kernel
theorem dX4_init_29 : decode cX4_init 29 = .ok (.invokespecial 11, 3) := by decide +kernel
theorem dX4_init_32 : decode cX4_init 32 = .ok (.putfield 20, 3) := by decide +kernel
theorem dX4_init_35 : decode cX4_init 35 = .ok (.aload_n 0, 1) := by decide +kernel
theorem dX4_init_36 : decode cX4_init 36 = .ok (.new 23, 3) := by decide +kernel
theorem dX4_init_39 : decode cX4_init 39 = .ok (.dup, 1) := by decide +kernel
theorem dX4_init_40 : decode cX4_init 40 = .ok (.bipush 80, 2) := by decide +kernel
theorem dX4_init_42 : decode cX4_init 42 = .ok (.invokespecial 25, 3) := by decide +kernel
theorem dX4_init_45 : decode cX4_init 45 = .ok (.putfield 28, 3) := by decide +kernel
theorem dX4_init_48 : decode cX4_init 48 = .ok (.aload_n 0, 1) := by decide +kernel
theorem dX4_init_49 : decode cX4_init 49 = .ok (.new 9, 3) := by decide +kernel
theorem dX4_init_52 : decode cX4_init 52 = .ok (.dup, 1) := by decide +kernel
theorem dX4_init_53 : decode cX4_init 53 = .ok (.bipush 60, 2) := by decide +kernel
theorem dX4_init_55 : decode cX4_init 55 = .ok (.sipush 160, 3) := by decide +kernel
theorem dX4_init_58 : decode cX4_init 58 = .ok (.invokespecial 11, 3) := by decide +kernel
theorem dX4_init_61 : decode cX4_init 61 = .ok (.putfield 32, 3) := by decide +kernel
theorem dX4_init_64 : decode cX4_init 64 = .ok (.aload_n 0, 1) := by decide +kernel
theorem dX4_init_65 : decode cX4_init 65 = .ok (.new 23, 3) := by decide +kernel
theorem dX4_init_68 : decode cX4_init 68 = .ok (.dup, 1) := by decide +kernel
theorem dX4_init_69 : decode cX4_init 69 = .ok (.bipush 40, 2) := by decide +kernel
theorem dX4_init_71 : decode cX4_init 71 = .ok (.invokespecial 25, 3) := by decide +kernel
theorem dX4_init_74 : decode cX4_init 74 = .ok (.putfield 35, 3) := by decide +kernel
theorem dX4_init_77 : decode cX4_init 77 = .ok (.aload_n 0, 1) := by decide +kernel
theorem dX4_init_78 : decode cX4_init 78 = .ok (.new 9, 3) := by decide +kernel
theorem dX4_init_81 : decode cX4_init 81 = .ok (.dup, 1) := by decide +kernel
theorem dX4_init_82 : decode cX4_init 82 = .ok (.bipush 60, 2) := by decide +kernel
theorem dX4_init_84 : decode cX4_init 84 = .ok (.sipush 160, 3) := by decide +kernel
theorem dX4_init_87 : decode cX4_init 87 = .ok (.invokespecial 11, 3) := by decide +kernel
theorem dX4_init_90 : decode cX4_init 90 = .ok (.putfield 38, 3) := by decide +kernel
theorem dX4_init_93 : decode cX4_init 93 = .ok (.aload_n 0, 1) := by decide +kernel
theorem dX4_init_94 : decode cX4_init 94 = .ok (.iconst 1, 1) := by decide +kernel
theorem dX4_init_95 : decode cX4_init 95 = .ok (.putfield 41, 3) := by decide +kernel
theorem dX4_init_98 : decode cX4_init 98 = .ok (.return_, 1) := by decide +kernel
theorem dX4_take_0 : decode cX4_take 0 = .ok (.aload_n 0, 1) := by decide +kernel
theorem dX4_take_1 : decode cX4_take 1 = .ok (.iload_n 2, 1) := by decide +kernel
theorem dX4_take_2 : decode cX4_take 2 = .ok (.putfield 41, 3) := by decide +kernel
theorem dX4_take_5 : decode cX4_take 5 = .ok (.aload_n 0, 1) := by decide +kernel
theorem dX4_take_6 : decode cX4_take 6 = .ok (.getfield 14, 3) := by decide +kernel
theorem dX4_take_9 : decode cX4_take 9 = .ok (.invokevirtual 45, 3) := by decide +kernel
theorem dX4_take_12 : decode cX4_take 12 = .ok (.iconst 0, 1) := by decide +kernel
theorem dX4_take_13 : decode cX4_take 13 = .ok (.istore_n 3, 1) := by decide +kernel
theorem dX4_take_14 : decode cX4_take 14 = .ok (.iload_n 3, 1) := by decide +kernel
theorem dX4_take_15 : decode cX4_take 15 = .ok (.aload_n 1, 1) := by decide +kernel
theorem dX4_take_16 : decode cX4_take 16 = .ok (.invokevirtual 48, 3) := by decide +kernel
theorem dX4_take_19 : decode cX4_take 19 = .ok (.if_icmp .ge 41, 3) := by decide +kernel
theorem dX4_take_22 : decode cX4_take 22 = .ok (.aload_n 1, 1) := by decide +kernel
theorem dX4_take_23 : decode cX4_take 23 = .ok (.iload_n 3, 1) := by decide +kernel
theorem dX4_take_24 : decode cX4_take 24 = .ok (.invokevirtual 52, 3) := by decide +kernel
theorem dX4_take_27 : decode cX4_take 27 = .ok (.bipush 32, 2) := by decide +kernel
theorem dX4_take_29 : decode cX4_take 29 = .ok (.if_icmp .ne 13, 3) := by decide +kernel
theorem dX4_take_32 : decode cX4_take 32 = .ok (.aload_n 0, 1) := by decide +kernel
theorem dX4_take_33 : decode cX4_take 33 = .ok (.getfield 14, 3) := by decide +kernel
theorem dX4_take_36 : decode cX4_take 36 = .ok (.invokevirtual 56, 3) := by decide +kernel
theorem dX4_take_39 : decode cX4_take 39 = .ok (.goto 15, 3) := by decide +kernel
theorem dX4_take_42 : decode cX4_take 42 = .ok (.aload_n 0, 1) := by decide +kernel
theorem dX4_take_43 : decode cX4_take 43 = .ok (.getfield 14, 3) := by decide +kernel
theorem dX4_take_46 : decode cX4_take 46 = .ok (.aload_n 1, 1) := by decide +kernel
theorem dX4_take_47 : decode cX4_take 47 = .ok (.iload_n 3, 1) := by decide +kernel
theorem dX4_take_48 : decode cX4_take 48 = .ok (.invokevirtual 52, 3) := by decide +kernel
theorem dX4_take_51 : decode cX4_take 51 = .ok (.invokevirtual 59, 3) := by decide +kernel
theorem dX4_take_54 : decode cX4_take 54 = .ok (.iinc 3 1, 3) := by decide +kernel
theorem dX4_take_57 : decode cX4_take 57 = .ok (.goto (-43), 3) := by decide +kernel
theorem dX4_take_60 : decode cX4_take 60 = .ok (.aload_n 0, 1) := by decide +kernel
theorem dX4_take_61 : decode cX4_take 61 = .ok (.getfield 14, 3) := by decide +kernel
theorem dX4_take_64 : decode cX4_take 64 = .ok (.invokevirtual 56, 3) := by decide +kernel
theorem dX4_take_67 : decode cX4_take 67 = .ok (.aload_n 0, 1) := by decide +kernel
theorem dX4_take_68 : decode cX4_take 68 = .ok (.getfield 28, 3) := by decide +kernel
theorem dX4_take_71 : decode cX4_take 71 = .ok (.invokevirtual 62, 3) := by decide +kernel
theorem dX4_take_74 : decode cX4_take 74 = .ok (.iconst 0, 1) := by decide +kernel
theorem dX4_take_75 : decode cX4_take 75 = .ok (.istore_n 3, 1) := by decide +kernel
theorem dX4_take_76 : decode cX4_take 76 = .ok (.iload_n 3, 1) := by decide +kernel
theorem dX4_take_77 : decode cX4_take 77 = .ok (.iconst 2, 1) := by decide +kernel
theorem dX4_take_78 : decode cX4_take 78 = .ok (.aload_n 0, 1) := by decide +kernel
theorem dX4_take_79 : decode cX4_take 79 = .ok (.getfield 14, 3) := by decide +kernel
theorem dX4_take_82 : decode cX4_take 82 = .ok (.invokevirtual 63, 3) := by decide +kernel
theorem dX4_take_85 : decode cX4_take 85 = .ok (.imul, 1) := by decide +kernel
theorem dX4_take_86 : decode cX4_take 86 = .ok (.if_icmp .ge 18, 3) := by decide +kernel
theorem dX4_take_89 : decode cX4_take 89 = .ok (.aload_n 0, 1) := by decide +kernel
theorem dX4_take_90 : decode cX4_take 90 = .ok (.getfield 28, 3) := by decide +kernel
theorem dX4_take_93 : decode cX4_take 93 = .ok (.bipush 45, 2) := by decide +kernel
theorem dX4_take_95 : decode cX4_take 95 = .ok (.invokevirtual 64, 3) := by decide +kernel
theorem dX4_take_98 : decode cX4_take 98 = .ok (.iinc 3 1, 3) := by decide +kernel
theorem dX4_take_101 : decode cX4_take 101 = .ok (.goto (-25), 3) := by decide +kernel
theorem dX4_take_104 : decode cX4_take 104 = .ok (.return_, 1) := by decide +kernel
theorem dX4_translate_0 : decode cX4_translate 0 = .ok (.iconst 0, 1) := by decide +kernel
theorem dX4_translate_1 : decode cX4_translate 1 = .ok (.istore_n 3, 1) := by decide +kernel
theorem dX4_translate_2 : decode cX4_translate 2 = .ok (.aload_n 2, 1) := by decide +kernel
theorem dX4_translate_3 : decode cX4_translate 3 = .ok (.invokevirtual 45, 3) := by decide +kernel
theorem dX4_translate_6 : decode cX4_translate 6 = .ok (.iconst 0, 1) := by decide +kernel
theorem dX4_translate_7 : decode cX4_translate 7 = .ok (.istore 4, 2) := by decide +kernel
theorem dX4_translate_9 : decode cX4_translate 9 = .ok (.iload 4, 2) := by decide +kernel
theorem dX4_translate_11 : decode cX4_translate 11 = .ok (.aload_n 0, 1) := by decide +kernel
theorem dX4_translate_12 : decode cX4_translate 12 = .ok (.getfield 14, 3) := by decide +kernel
theorem dX4_translate_15 : decode cX4_translate 15 = .ok (.invokevirtual 63, 3) := by decide +kernel
theorem dX4_translate_18 : decode cX4_translate 18 = .ok (.if_icmp .ge 68, 3) := by decide +kernel
theorem dX4_translate_21 : decode cX4_translate 21 = .ok (.aload_n 1, 1) := by decide +kernel
theorem dX4_translate_22 : decode cX4_translate 22 = .ok (.aload_n 0, 1) := by decide +kernel
theorem dX4_translate_23 : decode cX4_translate 23 = .ok (.getfield 14, 3) := by decide +kernel
theorem dX4_translate_26 : decode cX4_translate 26 = .ok (.invokevirtual 65, 3) := by decide +kernel
theorem dX4_translate_29 : decode cX4_translate 29 = .ok (.aload_n 0, 1) := by decide +kernel
theorem dX4_translate_30 : decode cX4_translate 30 = .ok (.getfield 14, 3) := by decide +kernel
theorem dX4_translate_33 : decode cX4_translate 33 = .ok (.iload 4, 2) := by decide +kernel
theorem dX4_translate_35 : decode cX4_translate 35 = .ok (.invokevirtual 69, 3) := by decide +kernel
theorem dX4_translate_38 : decode cX4_translate 38 = .ok (.aload_n 0, 1) := by decide +kernel
theorem dX4_translate_39 : decode cX4_translate 39 = .ok (.getfield 14, 3) := by decide +kernel
theorem dX4_translate_42 : decode cX4_translate 42 = .ok (.iload 4, 2) := by decide +kernel
theorem dX4_translate_44 : decode cX4_translate 44 = .ok (.invokevirtual 72, 3) := by decide +kernel
theorem dX4_translate_47 : decode cX4_translate 47 = .ok (.aload_n 0, 1) := by decide +kernel
theorem dX4_translate_48 : decode cX4_translate 48 = .ok (.getfield 41, 3) := by decide +kernel
theorem dX4_translate_51 : decode cX4_translate 51 = .ok (.aload_n 2, 1) := by decide +kernel
theorem dX4_translate_52 : decode cX4_translate 52 = .ok (.invokevirtual 75, 3) := by decide +kernel
theorem dX4_translate_55 : decode cX4_translate 55 = .ok (.aload_n 2, 1) := by decide +kernel
theorem dX4_translate_56 : decode cX4_translate 56 = .ok (.invokevirtual 56, 3) := by decide +kernel
theorem dX4_translate_59 : decode cX4_translate 59 = .ok (.aload_n 2, 1) := by decide +kernel
theorem dX4_translate_60 : decode cX4_translate 60 = .ok (.iload 4, 2) := by decide +kernel
theorem dX4_translate_62 : decode cX4_translate 62 = .ok (.aload_n 0, 1) := by decide +kernel
theorem dX4_translate_63 : decode cX4_translate 63 = .ok (.getfield 20, 3) := by decide +kernel
theorem dX4_translate_66 : decode cX4_translate 66 = .ok (.invokevirtual 81, 3) := by decide +kernel
theorem dX4_translate_69 : decode cX4_translate 69 = .ok (.ifCond .ne 11, 3) := by decide +kernel
theorem dX4_translate_72 : decode cX4_translate 72 = .ok (.iconst 1, 1) := by decide +kernel
theorem dX4_translate_73 : decode cX4_translate 73 = .ok (.istore_n 3, 1) := by decide +kernel
theorem dX4_translate_74 : decode cX4_translate 74 = .ok (.aload_n 0, 1) := by decide +kernel
theorem dX4_translate_75 : decode cX4_translate 75 = .ok (.iload 4, 2) := by decide +kernel
theorem dX4_translate_77 : decode cX4_translate 77 = .ok (.invokevirtual 85, 3) := by decide +kernel
theorem dX4_translate_80 : decode cX4_translate 80 = .ok (.iinc 4 1, 3) := by decide +kernel
theorem dX4_translate_83 : decode cX4_translate 83 = .ok (.goto (-74), 3) := by decide +kernel
theorem dX4_translate_86 : decode cX4_translate 86 = .ok (.aload_n 0, 1) := by decide +kernel
theorem dX4_translate_87 : decode cX4_translate 87 = .ok (.getfield 20, 3) := by decide +kernel
theorem dX4_translate_90 : decode cX4_translate 90 = .ok (.aload_n 2, 1) := by decide +kernel
theorem dX4_translate_91 : decode cX4_translate 91 = .ok (.invokevirtual 88, 3) := by decide +kernel
theorem dX4_translate_94 : decode cX4_translate 94 = .ok (.iload_n 3, 1) := by decide +kernel
theorem dX4_translate_95 : decode cX4_translate 95 = .ok (.ireturn, 1) := by decide +kernel
theorem dX4_lay_0 : decode cX4_lay 0 = .ok (.aload_n 0, 1) := by decide +kernel
theorem dX4_lay_1 : decode cX4_lay 1 = .ok (.getfield 32, 3) := by decide +kernel
theorem dX4_lay_4 : decode cX4_lay 4 = .ok (.invokevirtual 45, 3) := by decide +kernel
theorem dX4_lay_7 : decode cX4_lay 7 = .ok (.aload_n 0, 1) := by decide +kernel
theorem dX4_lay_8 : decode cX4_lay 8 = .ok (.getfield 35, 3) := by decide +kernel
theorem dX4_lay_11 : decode cX4_lay 11 = .ok (.invokevirtual 62, 3) := by decide +kernel
theorem dX4_lay_14 : decode cX4_lay 14 = .ok (.iconst 0, 1) := by decide +kernel
theorem dX4_lay_15 : decode cX4_lay 15 = .ok (.istore_n 2, 1) := by decide +kernel
theorem dX4_lay_16 : decode cX4_lay 16 = .ok (.iload_n 2, 1) := by decide +kernel
theorem dX4_lay_17 : decode cX4_lay 17 = .ok (.aload_n 0, 1) := by decide +kernel
theorem dX4_lay_18 : decode cX4_lay 18 = .ok (.getfield 20, 3) := by decide +kernel
theorem dX4_lay_21 : decode cX4_lay 21 = .ok (.invokevirtual 63, 3) := by decide +kernel
theorem dX4_lay_24 : decode cX4_lay 24 = .ok (.if_icmp .ge 90, 3) := by decide +kernel
theorem dX4_lay_27 : decode cX4_lay 27 = .ok (.aload_n 0, 1) := by decide +kernel
theorem dX4_lay_28 : decode cX4_lay 28 = .ok (.aload_n 0, 1) := by decide +kernel
theorem dX4_lay_29 : decode cX4_lay 29 = .ok (.getfield 20, 3) := by decide +kernel
theorem dX4_lay_32 : decode cX4_lay 32 = .ok (.iload_n 2, 1) := by decide +kernel
theorem dX4_lay_33 : decode cX4_lay 33 = .ok (.invokevirtual 92, 3) := by decide +kernel
theorem dX4_lay_36 : decode cX4_lay 36 = .ok (.iload_n 1, 1) := by decide +kernel
theorem dX4_lay_37 : decode cX4_lay 37 = .ok (.invokevirtual 95, 3) := by decide +kernel
theorem dX4_lay_40 : decode cX4_lay 40 = .ok (.aload_n 0, 1) := by decide +kernel
theorem dX4_lay_41 : decode cX4_lay 41 = .ok (.getfield 35, 3) := by decide +kernel
theorem dX4_lay_44 : decode cX4_lay 44 = .ok (.aload_n 0, 1) := by decide +kernel
theorem dX4_lay_45 : decode cX4_lay 45 = .ok (.getfield 32, 3) := by decide +kernel
theorem dX4_lay_48 : decode cX4_lay 48 = .ok (.invokevirtual 63, 3) := by decide +kernel
theorem dX4_lay_51 : decode cX4_lay 51 = .ok (.invokevirtual 64, 3) := by decide +kernel
theorem dX4_lay_54 : decode cX4_lay 54 = .ok (.iconst 0, 1) := by decide +kernel
theorem dX4_lay_55 : decode cX4_lay 55 = .ok (.istore_n 3, 1) := by decide +kernel
theorem dX4_lay_56 : decode cX4_lay 56 = .ok (.iload_n 3, 1) := by decide +kernel
theorem dX4_lay_57 : decode cX4_lay 57 = .ok (.aload_n 0, 1) := by decide +kernel
theorem dX4_lay_58 : decode cX4_lay 58 = .ok (.getfield 20, 3) := by decide +kernel
theorem dX4_lay_61 : decode cX4_lay 61 = .ok (.iload_n 2, 1) := by decide +kernel
theorem dX4_lay_62 : decode cX4_lay 62 = .ok (.invokevirtual 92, 3) := by decide +kernel
theorem dX4_lay_65 : decode cX4_lay 65 = .ok (.if_icmp .ge 43, 3) := by decide +kernel
theorem dX4_lay_68 : decode cX4_lay 68 = .ok (.aload_n 0, 1) := by decide +kernel
theorem dX4_lay_69 : decode cX4_lay 69 = .ok (.getfield 32, 3) := by decide +kernel
theorem dX4_lay_72 : decode cX4_lay 72 = .ok (.invokevirtual 98, 3) := by decide +kernel
theorem dX4_lay_75 : decode cX4_lay 75 = .ok (.iload_n 1, 1) := by decide +kernel
theorem dX4_lay_76 : decode cX4_lay 76 = .ok (.if_icmp .lt 10, 3) := by decide +kernel
theorem dX4_lay_79 : decode cX4_lay 79 = .ok (.aload_n 0, 1) := by decide +kernel
theorem dX4_lay_80 : decode cX4_lay 80 = .ok (.getfield 32, 3) := by decide +kernel
theorem dX4_lay_83 : decode cX4_lay 83 = .ok (.invokevirtual 56, 3) := by decide +kernel
theorem dX4_lay_86 : decode cX4_lay 86 = .ok (.aload_n 0, 1) := by decide +kernel
theorem dX4_lay_87 : decode cX4_lay 87 = .ok (.getfield 32, 3) := by decide +kernel
theorem dX4_lay_90 : decode cX4_lay 90 = .ok (.aload_n 0, 1) := by decide +kernel
theorem dX4_lay_91 : decode cX4_lay 91 = .ok (.getfield 20, 3) := by decide +kernel
theorem dX4_lay_94 : decode cX4_lay 94 = .ok (.iload_n 2, 1) := by decide +kernel
theorem dX4_lay_95 : decode cX4_lay 95 = .ok (.iload_n 3, 1) := by decide +kernel
theorem dX4_lay_96 : decode cX4_lay 96 = .ok (.invokevirtual 101, 3) := by decide +kernel
theorem dX4_lay_99 : decode cX4_lay 99 = .ok (.invokevirtual 59, 3) := by decide +kernel
theorem dX4_lay_102 : decode cX4_lay 102 = .ok (.iinc 3 1, 3) := by decide +kernel
theorem dX4_lay_105 : decode cX4_lay 105 = .ok (.goto (-49), 3) := by decide +kernel
theorem dX4_lay_108 : decode cX4_lay 108 = .ok (.iinc 2 1, 3) := by decide +kernel
theorem dX4_lay_111 : decode cX4_lay 111 = .ok (.goto (-95), 3) := by decide +kernel
theorem dX4_lay_114 : decode cX4_lay 114 = .ok (.aload_n 0, 1) := by decide +kernel
theorem dX4_lay_115 : decode cX4_lay 115 = .ok (.getfield 32, 3) := by decide +kernel
theorem dX4_lay_118 : decode cX4_lay 118 = .ok (.invokevirtual 56, 3) := by decide +kernel
theorem dX4_lay_121 : decode cX4_lay 121 = .ok (.return_, 1) := by decide +kernel
theorem dX4_beginWord_0 : decode cX4_beginWord 0 = .ok (.aload_n 0, 1) := by decide +kernel
theorem dX4_beginWord_1 : decode cX4_beginWord 1 = .ok (.getfield 32, 3) := by decide +kernel
theorem dX4_beginWord_4 : decode cX4_beginWord 4 = .ok (.invokevirtual 98, 3) := by decide +kernel
theorem dX4_beginWord_7 : decode cX4_beginWord 7 = .ok (.istore_n 3, 1) := by decide +kernel
theorem dX4_beginWord_8 : decode cX4_beginWord 8 = .ok (.iload_n 3, 1) := by decide +kernel
theorem dX4_beginWord_9 : decode cX4_beginWord 9 = .ok (.ifCond .le 23, 3) := by decide +kernel
theorem dX4_beginWord_12 : decode cX4_beginWord 12 = .ok (.iload_n 3, 1) := by decide +kernel
theorem dX4_beginWord_13 : decode cX4_beginWord 13 = .ok (.iconst 1, 1) := by decide +kernel
theorem dX4_beginWord_14 : decode cX4_beginWord 14 = .ok (.iadd, 1) := by decide +kernel
theorem dX4_beginWord_15 : decode cX4_beginWord 15 = .ok (.iload_n 1, 1) := by decide +kernel
theorem dX4_beginWord_16 : decode cX4_beginWord 16 = .ok (.iadd, 1) := by decide +kernel
theorem dX4_beginWord_17 : decode cX4_beginWord 17 = .ok (.iload_n 2, 1) := by decide +kernel
theorem dX4_beginWord_18 : decode cX4_beginWord 18 = .ok (.if_icmp .gt 14, 3) := by decide +kernel
theorem dX4_beginWord_21 : decode cX4_beginWord 21 = .ok (.aload_n 0, 1) := by decide +kernel
theorem dX4_beginWord_22 : decode cX4_beginWord 22 = .ok (.getfield 32, 3) := by decide +kernel
theorem dX4_beginWord_25 : decode cX4_beginWord 25 = .ok (.iconst 0, 1) := by decide +kernel
theorem dX4_beginWord_26 : decode cX4_beginWord 26 = .ok (.invokevirtual 59, 3) := by decide +kernel
theorem dX4_beginWord_29 : decode cX4_beginWord 29 = .ok (.goto 10, 3) := by decide +kernel
theorem dX4_beginWord_32 : decode cX4_beginWord 32 = .ok (.aload_n 0, 1) := by decide +kernel
theorem dX4_beginWord_33 : decode cX4_beginWord 33 = .ok (.getfield 32, 3) := by decide +kernel
theorem dX4_beginWord_36 : decode cX4_beginWord 36 = .ok (.invokevirtual 56, 3) := by decide +kernel
theorem dX4_beginWord_39 : decode cX4_beginWord 39 = .ok (.return_, 1) := by decide +kernel
theorem dX4_wordCount_0 : decode cX4_wordCount 0 = .ok (.aload_n 0, 1) := by decide +kernel
theorem dX4_wordCount_1 : decode cX4_wordCount 1 = .ok (.getfield 14, 3) := by decide +kernel
theorem dX4_wordCount_4 : decode cX4_wordCount 4 = .ok (.invokevirtual 63, 3) := by decide +kernel
theorem dX4_wordCount_7 : decode cX4_wordCount 7 = .ok (.ireturn, 1) := by decide +kernel
theorem dX4_cellCount_0 : decode cX4_cellCount 0 = .ok (.aload_n 0, 1) := by decide +kernel
theorem dX4_cellCount_1 : decode cX4_cellCount 1 = .ok (.getfield 20, 3) := by decide +kernel
theorem dX4_cellCount_4 : decode cX4_cellCount 4 = .ok (.iload_n 1, 1) := by decide +kernel
theorem dX4_cellCount_5 : decode cX4_cellCount 5 = .ok (.invokevirtual 92, 3) := by decide +kernel
theorem dX4_cellCount_8 : decode cX4_cellCount 8 = .ok (.ireturn, 1) := by decide +kernel
theorem dX4_cellAt_0 : decode cX4_cellAt 0 = .ok (.aload_n 0, 1) := by decide +kernel
theorem dX4_cellAt_1 : decode cX4_cellAt 1 = .ok (.getfield 20, 3) := by decide +kernel
theorem dX4_cellAt_4 : decode cX4_cellAt 4 = .ok (.iload_n 1, 1) := by decide +kernel
theorem dX4_cellAt_5 : decode cX4_cellAt 5 = .ok (.iload_n 2, 1) := by decide +kernel
theorem dX4_cellAt_6 : decode cX4_cellAt 6 = .ok (.invokevirtual 101, 3) := by decide +kernel
theorem dX4_cellAt_9 : decode cX4_cellAt 9 = .ok (.ireturn, 1) := by decide +kernel
theorem dX4_lineCount_0 : decode cX4_lineCount 0 = .ok (.aload_n 0, 1) := by decide +kernel
theorem dX4_lineCount_1 : decode cX4_lineCount 1 = .ok (.getfield 32, 3) := by decide +kernel
theorem dX4_lineCount_4 : decode cX4_lineCount 4 = .ok (.invokevirtual 63, 3) := by decide +kernel
theorem dX4_lineCount_7 : decode cX4_lineCount 7 = .ok (.ireturn, 1) := by decide +kernel
theorem dX4_lineSize_0 : decode cX4_lineSize 0 = .ok (.aload_n 0, 1) := by decide +kernel
theorem dX4_lineSize_1 : decode cX4_lineSize 1 = .ok (.getfield 32, 3) := by decide +kernel
theorem dX4_lineSize_4 : decode cX4_lineSize 4 = .ok (.iload_n 1, 1) := by decide +kernel
theorem dX4_lineSize_5 : decode cX4_lineSize 5 = .ok (.invokevirtual 92, 3) := by decide +kernel
theorem dX4_lineSize_8 : decode cX4_lineSize 8 = .ok (.ireturn, 1) := by decide +kernel
theorem dX4_laidCellAt_0 : decode cX4_laidCellAt 0 = .ok (.aload_n 0, 1) := by decide +kernel
theorem dX4_laidCellAt_1 : decode cX4_laidCellAt 1 = .ok (.getfield 32, 3) := by decide +kernel
theorem dX4_laidCellAt_4 : decode cX4_laidCellAt 4 = .ok (.iload_n 1, 1) := by decide +kernel
theorem dX4_laidCellAt_5 : decode cX4_laidCellAt 5 = .ok (.iload_n 2, 1) := by decide +kernel
theorem dX4_laidCellAt_6 : decode cX4_laidCellAt 6 = .ok (.invokevirtual 101, 3) := by decide +kernel
theorem dX4_laidCellAt_9 : decode cX4_laidCellAt 9 = .ok (.ireturn, 1) := by decide +kernel
theorem dX4_firstLineOf_0 : decode cX4_firstLineOf 0 = .ok (.aload_n 0, 1) := by decide +kernel
theorem dX4_firstLineOf_1 : decode cX4_firstLineOf 1 = .ok (.getfield 35, 3) := by decide +kernel
theorem dX4_firstLineOf_4 : decode cX4_firstLineOf 4 = .ok (.iload_n 1, 1) := by decide +kernel
theorem dX4_firstLineOf_5 : decode cX4_firstLineOf 5 = .ok (.invokevirtual 52, 3) := by decide +kernel
theorem dX4_firstLineOf_8 : decode cX4_firstLineOf 8 = .ok (.ireturn, 1) := by decide +kernel
theorem dX4_isOther_0 : decode cX4_isOther 0 = .ok (.aload_n 0, 1) := by decide +kernel
theorem dX4_isOther_1 : decode cX4_isOther 1 = .ok (.getfield 32, 3) := by decide +kernel
theorem dX4_isOther_4 : decode cX4_isOther 4 = .ok (.iload_n 1, 1) := by decide +kernel
theorem dX4_isOther_5 : decode cX4_isOther 5 = .ok (.aload_n 0, 1) := by decide +kernel
theorem dX4_isOther_6 : decode cX4_isOther 6 = .ok (.getfield 38, 3) := by decide +kernel
theorem dX4_isOther_9 : decode cX4_isOther 9 = .ok (.invokevirtual 81, 3) := by decide +kernel
theorem dX4_isOther_12 : decode cX4_isOther 12 = .ok (.ifCond .ne 7, 3) := by decide +kernel
theorem dX4_isOther_15 : decode cX4_isOther 15 = .ok (.iconst 1, 1) := by decide +kernel
theorem dX4_isOther_16 : decode cX4_isOther 16 = .ok (.goto 4, 3) := by decide +kernel
theorem dX4_isOther_19 : decode cX4_isOther 19 = .ok (.iconst 0, 1) := by decide +kernel
theorem dX4_isOther_20 : decode cX4_isOther 20 = .ok (.ireturn, 1) := by decide +kernel
theorem dX4_otherLineCount_0 : decode cX4_otherLineCount 0 = .ok (.iconst 0, 1) := by decide +kernel
theorem dX4_otherLineCount_1 : decode cX4_otherLineCount 1 = .ok (.istore_n 1, 1) := by decide +kernel
theorem dX4_otherLineCount_2 : decode cX4_otherLineCount 2 = .ok (.iconst 0, 1) := by decide +kernel
theorem dX4_otherLineCount_3 : decode cX4_otherLineCount 3 = .ok (.istore_n 2, 1) := by decide +kernel
theorem dX4_otherLineCount_4 : decode cX4_otherLineCount 4 = .ok (.iload_n 2, 1) := by decide +kernel
theorem dX4_otherLineCount_5 : decode cX4_otherLineCount 5 = .ok (.aload_n 0, 1) := by decide +kernel
theorem dX4_otherLineCount_6 : decode cX4_otherLineCount 6 = .ok (.getfield 32, 3) := by decide +kernel
theorem dX4_otherLineCount_9 : decode cX4_otherLineCount 9 = .ok (.invokevirtual 63, 3) := by decide +kernel
theorem dX4_otherLineCount_12 : decode cX4_otherLineCount 12 = .ok (.aload_n 0, 1) := by decide +kernel
theorem dX4_otherLineCount_13 : decode cX4_otherLineCount 13 = .ok (.getfield 38, 3) := by decide +kernel
theorem dX4_otherLineCount_16 : decode cX4_otherLineCount 16 = .ok (.invokevirtual 63, 3) := by decide +kernel
theorem dX4_otherLineCount_19 : decode cX4_otherLineCount 19 = .ok (.invokestatic 104, 3) := by decide +kernel
theorem dX4_otherLineCount_22 : decode cX4_otherLineCount 22 = .ok (.if_icmp .ge 25, 3) := by decide +kernel
theorem dX4_otherLineCount_25 : decode cX4_otherLineCount 25 = .ok (.iload_n 1, 1) := by decide +kernel
theorem dX4_otherLineCount_26 : decode cX4_otherLineCount 26 = .ok (.aload_n 0, 1) := by decide +kernel
theorem dX4_otherLineCount_27 : decode cX4_otherLineCount 27 = .ok (.iload_n 2, 1) := by decide +kernel
theorem dX4_otherLineCount_28 : decode cX4_otherLineCount 28 = .ok (.invokevirtual 109, 3) := by decide +kernel
theorem dX4_otherLineCount_31 : decode cX4_otherLineCount 31 = .ok (.ifCond .eq 7, 3) := by decide +kernel
theorem dX4_otherLineCount_34 : decode cX4_otherLineCount 34 = .ok (.iconst 1, 1) := by decide +kernel
theorem dX4_otherLineCount_35 : decode cX4_otherLineCount 35 = .ok (.goto 4, 3) := by decide +kernel
theorem dX4_otherLineCount_38 : decode cX4_otherLineCount 38 = .ok (.iconst 0, 1) := by decide +kernel
theorem dX4_otherLineCount_39 : decode cX4_otherLineCount 39 = .ok (.iadd, 1) := by decide +kernel
theorem dX4_otherLineCount_40 : decode cX4_otherLineCount 40 = .ok (.istore_n 1, 1) := by decide +kernel
theorem dX4_otherLineCount_41 : decode cX4_otherLineCount 41 = .ok (.iinc 2 1, 3) := by decide +kernel
theorem dX4_otherLineCount_44 : decode cX4_otherLineCount 44 = .ok (.goto (-40), 3) := by decide +kernel
theorem dX4_otherLineCount_47 : decode cX4_otherLineCount 47 = .ok (.iload_n 1, 1) := by decide +kernel
theorem dX4_otherLineCount_48 : decode cX4_otherLineCount 48 = .ok (.ireturn, 1) := by decide +kernel
theorem dX4_keepAsEmbossed_0 : decode cX4_keepAsEmbossed 0 = .ok (.aload_n 0, 1) := by decide +kernel
theorem dX4_keepAsEmbossed_1 : decode cX4_keepAsEmbossed 1 = .ok (.getfield 38, 3) := by decide +kernel
theorem dX4_keepAsEmbossed_4 : decode cX4_keepAsEmbossed 4 = .ok (.aload_n 0, 1) := by decide +kernel
theorem dX4_keepAsEmbossed_5 : decode cX4_keepAsEmbossed 5 = .ok (.getfield 32, 3) := by decide +kernel
theorem dX4_keepAsEmbossed_8 : decode cX4_keepAsEmbossed 8 = .ok (.invokevirtual 88, 3) := by decide +kernel
theorem dX4_keepAsEmbossed_11 : decode cX4_keepAsEmbossed 11 = .ok (.return_, 1) := by decide +kernel
theorem dX4_putMark_0 : decode cX4_putMark 0 = .ok (.aload_n 0, 1) := by decide +kernel
theorem dX4_putMark_1 : decode cX4_putMark 1 = .ok (.getfield 28, 3) := by decide +kernel
theorem dX4_putMark_4 : decode cX4_putMark 4 = .ok (.iconst 2, 1) := by decide +kernel
theorem dX4_putMark_5 : decode cX4_putMark 5 = .ok (.iload_n 2, 1) := by decide +kernel
theorem dX4_putMark_6 : decode cX4_putMark 6 = .ok (.imul, 1) := by decide +kernel
theorem dX4_putMark_7 : decode cX4_putMark 7 = .ok (.iload_n 1, 1) := by decide +kernel
theorem dX4_putMark_8 : decode cX4_putMark 8 = .ok (.iadd, 1) := by decide +kernel
theorem dX4_putMark_9 : decode cX4_putMark 9 = .ok (.iload_n 3, 1) := by decide +kernel
theorem dX4_putMark_10 : decode cX4_putMark 10 = .ok (.invokevirtual 113, 3) := by decide +kernel
theorem dX4_putMark_13 : decode cX4_putMark 13 = .ok (.return_, 1) := by decide +kernel
theorem dX4_markBy_0 : decode cX4_markBy 0 = .ok (.aload_n 0, 1) := by decide +kernel
theorem dX4_markBy_1 : decode cX4_markBy 1 = .ok (.getfield 28, 3) := by decide +kernel
theorem dX4_markBy_4 : decode cX4_markBy 4 = .ok (.iconst 2, 1) := by decide +kernel
theorem dX4_markBy_5 : decode cX4_markBy 5 = .ok (.iload_n 2, 1) := by decide +kernel
theorem dX4_markBy_6 : decode cX4_markBy 6 = .ok (.imul, 1) := by decide +kernel
theorem dX4_markBy_7 : decode cX4_markBy 7 = .ok (.iload_n 1, 1) := by decide +kernel
theorem dX4_markBy_8 : decode cX4_markBy 8 = .ok (.iadd, 1) := by decide +kernel
theorem dX4_markBy_9 : decode cX4_markBy 9 = .ok (.invokevirtual 52, 3) := by decide +kernel
theorem dX4_markBy_12 : decode cX4_markBy 12 = .ok (.i2c, 1) := by decide +kernel
theorem dX4_markBy_13 : decode cX4_markBy 13 = .ok (.ireturn, 1) := by decide +kernel
theorem dX4_unmark_0 : decode cX4_unmark 0 = .ok (.iconst 0, 1) := by decide +kernel
theorem dX4_unmark_1 : decode cX4_unmark 1 = .ok (.istore_n 2, 1) := by decide +kernel
theorem dX4_unmark_2 : decode cX4_unmark 2 = .ok (.iload_n 2, 1) := by decide +kernel
theorem dX4_unmark_3 : decode cX4_unmark 3 = .ok (.iconst 2, 1) := by decide +kernel
theorem dX4_unmark_4 : decode cX4_unmark 4 = .ok (.if_icmp .ge 17, 3) := by decide +kernel
theorem dX4_unmark_7 : decode cX4_unmark 7 = .ok (.aload_n 0, 1) := by decide +kernel
theorem dX4_unmark_8 : decode cX4_unmark 8 = .ok (.iload_n 2, 1) := by decide +kernel
theorem dX4_unmark_9 : decode cX4_unmark 9 = .ok (.iload_n 1, 1) := by decide +kernel
theorem dX4_unmark_10 : decode cX4_unmark 10 = .ok (.bipush 45, 2) := by decide +kernel
theorem dX4_unmark_12 : decode cX4_unmark 12 = .ok (.invokevirtual 116, 3) := by decide +kernel
theorem dX4_unmark_15 : decode cX4_unmark 15 = .ok (.iinc 2 1, 3) := by decide +kernel
theorem dX4_unmark_18 : decode cX4_unmark 18 = .ok (.goto (-16), 3) := by decide +kernel
theorem dX4_unmark_21 : decode cX4_unmark 21 = .ok (.return_, 1) := by decide +kernel
theorem dX4_provedCount_0 : decode cX4_provedCount 0 = .ok (.iconst 0, 1) := by decide +kernel
theorem dX4_provedCount_1 : decode cX4_provedCount 1 = .ok (.istore_n 1, 1) := by decide +kernel
theorem dX4_provedCount_2 : decode cX4_provedCount 2 = .ok (.iconst 0, 1) := by decide +kernel
theorem dX4_provedCount_3 : decode cX4_provedCount 3 = .ok (.istore_n 2, 1) := by decide +kernel
theorem dX4_provedCount_4 : decode cX4_provedCount 4 = .ok (.iload_n 2, 1) := by decide +kernel
theorem dX4_provedCount_5 : decode cX4_provedCount 5 = .ok (.aload_n 0, 1) := by decide +kernel
theorem dX4_provedCount_6 : decode cX4_provedCount 6 = .ok (.getfield 14, 3) := by decide +kernel
theorem dX4_provedCount_9 : decode cX4_provedCount 9 = .ok (.invokevirtual 63, 3) := by decide +kernel
theorem dX4_provedCount_12 : decode cX4_provedCount 12 = .ok (.if_icmp .ge 39, 3) := by decide +kernel
theorem dX4_provedCount_15 : decode cX4_provedCount 15 = .ok (.iload_n 1, 1) := by decide +kernel
theorem dX4_provedCount_16 : decode cX4_provedCount 16 = .ok (.aload_n 0, 1) := by decide +kernel
theorem dX4_provedCount_17 : decode cX4_provedCount 17 = .ok (.iconst 0, 1) := by decide +kernel
theorem dX4_provedCount_18 : decode cX4_provedCount 18 = .ok (.iload_n 2, 1) := by decide +kernel
theorem dX4_provedCount_19 : decode cX4_provedCount 19 = .ok (.invokevirtual 120, 3) := by decide +kernel
theorem dX4_provedCount_22 : decode cX4_provedCount 22 = .ok (.bipush 114, 2) := by decide +kernel
theorem dX4_provedCount_24 : decode cX4_provedCount 24 = .ok (.if_icmp .ne 18, 3) := by decide +kernel
theorem dX4_provedCount_27 : decode cX4_provedCount 27 = .ok (.aload_n 0, 1) := by decide +kernel
theorem dX4_provedCount_28 : decode cX4_provedCount 28 = .ok (.iconst 1, 1) := by decide +kernel
theorem dX4_provedCount_29 : decode cX4_provedCount 29 = .ok (.iload_n 2, 1) := by decide +kernel
theorem dX4_provedCount_30 : decode cX4_provedCount 30 = .ok (.invokevirtual 120, 3) := by decide +kernel
theorem dX4_provedCount_33 : decode cX4_provedCount 33 = .ok (.bipush 114, 2) := by decide +kernel
theorem dX4_provedCount_35 : decode cX4_provedCount 35 = .ok (.if_icmp .ne 7, 3) := by decide +kernel
theorem dX4_provedCount_38 : decode cX4_provedCount 38 = .ok (.iconst 1, 1) := by decide +kernel
theorem dX4_provedCount_39 : decode cX4_provedCount 39 = .ok (.goto 4, 3) := by decide +kernel
theorem dX4_provedCount_42 : decode cX4_provedCount 42 = .ok (.iconst 0, 1) := by decide +kernel
theorem dX4_provedCount_43 : decode cX4_provedCount 43 = .ok (.iadd, 1) := by decide +kernel
theorem dX4_provedCount_44 : decode cX4_provedCount 44 = .ok (.istore_n 1, 1) := by decide +kernel
theorem dX4_provedCount_45 : decode cX4_provedCount 45 = .ok (.iinc 2 1, 3) := by decide +kernel
theorem dX4_provedCount_48 : decode cX4_provedCount 48 = .ok (.goto (-44), 3) := by decide +kernel
theorem dX4_provedCount_51 : decode cX4_provedCount 51 = .ok (.iload_n 1, 1) := by decide +kernel
theorem dX4_provedCount_52 : decode cX4_provedCount 52 = .ok (.ireturn, 1) := by decide +kernel
theorem dX4_sumOnto_0 : decode cX4_sumOnto 0 = .ok (.aload_n 0, 1) := by decide +kernel
theorem dX4_sumOnto_1 : decode cX4_sumOnto 1 = .ok (.getfield 32, 3) := by decide +kernel
theorem dX4_sumOnto_4 : decode cX4_sumOnto 4 = .ok (.invokevirtual 65, 3) := by decide +kernel
theorem dX4_sumOnto_7 : decode cX4_sumOnto 7 = .ok (.astore_n 3, 1) := by decide +kernel
theorem dX4_sumOnto_8 : decode cX4_sumOnto 8 = .ok (.lload_n 1, 1) := by decide +kernel
theorem dX4_sumOnto_9 : decode cX4_sumOnto 9 = .ok (.lstore 4, 2) := by decide +kernel
theorem dX4_sumOnto_11 : decode cX4_sumOnto 11 = .ok (.iconst 0, 1) := by decide +kernel
theorem dX4_sumOnto_12 : decode cX4_sumOnto 12 = .ok (.istore 6, 2) := by decide +kernel
theorem dX4_sumOnto_14 : decode cX4_sumOnto 14 = .ok (.iload 6, 2) := by decide +kernel
theorem dX4_sumOnto_16 : decode cX4_sumOnto 16 = .ok (.aload_n 3, 1) := by decide +kernel
theorem dX4_sumOnto_17 : decode cX4_sumOnto 17 = .ok (.invokevirtual 48, 3) := by decide +kernel
theorem dX4_sumOnto_20 : decode cX4_sumOnto 20 = .ok (.if_icmp .ge 25, 3) := by decide +kernel
theorem dX4_sumOnto_23 : decode cX4_sumOnto 23 = .ok (.ldc2_w 124, 3) := by decide +kernel
theorem dX4_sumOnto_26 : decode cX4_sumOnto 26 = .ok (.lload 4, 2) := by decide +kernel
theorem dX4_sumOnto_28 : decode cX4_sumOnto 28 = .ok (.lmul, 1) := by decide +kernel
theorem dX4_sumOnto_29 : decode cX4_sumOnto 29 = .ok (.aload_n 3, 1) := by decide +kernel
theorem dX4_sumOnto_30 : decode cX4_sumOnto 30 = .ok (.iload 6, 2) := by decide +kernel
theorem dX4_sumOnto_32 : decode cX4_sumOnto 32 = .ok (.invokevirtual 52, 3) := by decide +kernel
theorem dX4_sumOnto_35 : decode cX4_sumOnto 35 = .ok (.i2l, 1) := by decide +kernel
theorem dX4_sumOnto_36 : decode cX4_sumOnto 36 = .ok (.ladd, 1) := by decide +kernel
theorem dX4_sumOnto_37 : decode cX4_sumOnto 37 = .ok (.lstore 4, 2) := by decide +kernel
theorem dX4_sumOnto_39 : decode cX4_sumOnto 39 = .ok (.iinc 6 1, 3) := by decide +kernel
theorem dX4_sumOnto_42 : decode cX4_sumOnto 42 = .ok (.goto (-28), 3) := by decide +kernel
theorem dX4_sumOnto_45 : decode cX4_sumOnto 45 = .ok (.lload 4, 2) := by decide +kernel
theorem dX4_sumOnto_47 : decode cX4_sumOnto 47 = .ok (.lreturn, 1) := by decide +kernel
theorem dX4_isWellLaid_0 : decode cX4_isWellLaid 0 = .ok (.iconst 0, 1) := by decide +kernel
theorem dX4_isWellLaid_1 : decode cX4_isWellLaid 1 = .ok (.istore_n 2, 1) := by decide +kernel
theorem dX4_isWellLaid_2 : decode cX4_isWellLaid 2 = .ok (.iload_n 2, 1) := by decide +kernel
theorem dX4_isWellLaid_3 : decode cX4_isWellLaid 3 = .ok (.aload_n 0, 1) := by decide +kernel
theorem dX4_isWellLaid_4 : decode cX4_isWellLaid 4 = .ok (.getfield 32, 3) := by decide +kernel
theorem dX4_isWellLaid_7 : decode cX4_isWellLaid 7 = .ok (.invokevirtual 63, 3) := by decide +kernel
theorem dX4_isWellLaid_10 : decode cX4_isWellLaid 10 = .ok (.if_icmp .ge 23, 3) := by decide +kernel
theorem dX4_isWellLaid_13 : decode cX4_isWellLaid 13 = .ok (.aload_n 0, 1) := by decide +kernel
theorem dX4_isWellLaid_14 : decode cX4_isWellLaid 14 = .ok (.getfield 32, 3) := by decide +kernel
theorem dX4_isWellLaid_17 : decode cX4_isWellLaid 17 = .ok (.iload_n 2, 1) := by decide +kernel
theorem dX4_isWellLaid_18 : decode cX4_isWellLaid 18 = .ok (.invokevirtual 92, 3) := by decide +kernel
theorem dX4_isWellLaid_21 : decode cX4_isWellLaid 21 = .ok (.iload_n 1, 1) := by decide +kernel
theorem dX4_isWellLaid_22 : decode cX4_isWellLaid 22 = .ok (.if_icmp .le 5, 3) := by decide +kernel
theorem dX4_isWellLaid_25 : decode cX4_isWellLaid 25 = .ok (.iconst 0, 1) := by decide +kernel
theorem dX4_isWellLaid_26 : decode cX4_isWellLaid 26 = .ok (.ireturn, 1) := by decide +kernel
theorem dX4_isWellLaid_27 : decode cX4_isWellLaid 27 = .ok (.iinc 2 1, 3) := by decide +kernel
theorem dX4_isWellLaid_30 : decode cX4_isWellLaid 30 = .ok (.goto (-28), 3) := by decide +kernel
theorem dX4_isWellLaid_33 : decode cX4_isWellLaid 33 = .ok (.aload_n 0, 1) := by decide +kernel
theorem dX4_isWellLaid_34 : decode cX4_isWellLaid 34 = .ok (.getfield 32, 3) := by decide +kernel
theorem dX4_isWellLaid_37 : decode cX4_isWellLaid 37 = .ok (.invokevirtual 65, 3) := by decide +kernel
theorem dX4_isWellLaid_40 : decode cX4_isWellLaid 40 = .ok (.astore_n 2, 1) := by decide +kernel
theorem dX4_isWellLaid_41 : decode cX4_isWellLaid 41 = .ok (.iconst 0, 1) := by decide +kernel
theorem dX4_isWellLaid_42 : decode cX4_isWellLaid 42 = .ok (.istore_n 3, 1) := by decide +kernel
theorem dX4_isWellLaid_43 : decode cX4_isWellLaid 43 = .ok (.iconst 0, 1) := by decide +kernel
theorem dX4_isWellLaid_44 : decode cX4_isWellLaid 44 = .ok (.istore 4, 2) := by decide +kernel
theorem dX4_isWellLaid_46 : decode cX4_isWellLaid 46 = .ok (.iload 4, 2) := by decide +kernel
theorem dX4_isWellLaid_48 : decode cX4_isWellLaid 48 = .ok (.aload_n 2, 1) := by decide +kernel
theorem dX4_isWellLaid_49 : decode cX4_isWellLaid 49 = .ok (.invokevirtual 48, 3) := by decide +kernel
theorem dX4_isWellLaid_52 : decode cX4_isWellLaid 52 = .ok (.if_icmp .ge 43, 3) := by decide +kernel
theorem dX4_isWellLaid_55 : decode cX4_isWellLaid 55 = .ok (.aload_n 2, 1) := by decide +kernel
theorem dX4_isWellLaid_56 : decode cX4_isWellLaid 56 = .ok (.iload 4, 2) := by decide +kernel
theorem dX4_isWellLaid_58 : decode cX4_isWellLaid 58 = .ok (.invokevirtual 52, 3) := by decide +kernel
theorem dX4_isWellLaid_61 : decode cX4_isWellLaid 61 = .ok (.ifCond .eq 28, 3) := by decide +kernel
theorem dX4_isWellLaid_64 : decode cX4_isWellLaid 64 = .ok (.aload_n 2, 1) := by decide +kernel
theorem dX4_isWellLaid_65 : decode cX4_isWellLaid 65 = .ok (.iload 4, 2) := by decide +kernel
theorem dX4_isWellLaid_67 : decode cX4_isWellLaid 67 = .ok (.invokevirtual 52, 3) := by decide +kernel
theorem dX4_isWellLaid_70 : decode cX4_isWellLaid 70 = .ok (.aload_n 0, 1) := by decide +kernel
theorem dX4_isWellLaid_71 : decode cX4_isWellLaid 71 = .ok (.getfield 20, 3) := by decide +kernel
theorem dX4_isWellLaid_74 : decode cX4_isWellLaid 74 = .ok (.invokevirtual 65, 3) := by decide +kernel
theorem dX4_isWellLaid_77 : decode cX4_isWellLaid 77 = .ok (.iload_n 3, 1) := by decide +kernel
theorem dX4_isWellLaid_78 : decode cX4_isWellLaid 78 = .ok (.invokevirtual 52, 3) := by decide +kernel
theorem dX4_isWellLaid_81 : decode cX4_isWellLaid 81 = .ok (.if_icmp .eq 5, 3) := by decide +kernel
theorem dX4_isWellLaid_84 : decode cX4_isWellLaid 84 = .ok (.iconst 0, 1) := by decide +kernel
theorem dX4_isWellLaid_85 : decode cX4_isWellLaid 85 = .ok (.ireturn, 1) := by decide +kernel
theorem dX4_isWellLaid_86 : decode cX4_isWellLaid 86 = .ok (.iinc 3 1, 3) := by decide +kernel
theorem dX4_isWellLaid_89 : decode cX4_isWellLaid 89 = .ok (.iinc 4 1, 3) := by decide +kernel
theorem dX4_isWellLaid_92 : decode cX4_isWellLaid 92 = .ok (.goto (-46), 3) := by decide +kernel
theorem dX4_isWellLaid_95 : decode cX4_isWellLaid 95 = .ok (.iload_n 3, 1) := by decide +kernel
theorem dX4_isWellLaid_96 : decode cX4_isWellLaid 96 = .ok (.aload_n 0, 1) := by decide +kernel
theorem dX4_isWellLaid_97 : decode cX4_isWellLaid 97 = .ok (.getfield 20, 3) := by decide +kernel
theorem dX4_isWellLaid_100 : decode cX4_isWellLaid 100 = .ok (.invokevirtual 65, 3) := by decide +kernel
theorem dX4_isWellLaid_103 : decode cX4_isWellLaid 103 = .ok (.invokevirtual 48, 3) := by decide +kernel
theorem dX4_isWellLaid_106 : decode cX4_isWellLaid 106 = .ok (.if_icmp .ne 7, 3) := by decide +kernel
theorem dX4_isWellLaid_109 : decode cX4_isWellLaid 109 = .ok (.iconst 1, 1) := by decide +kernel
theorem dX4_isWellLaid_110 : decode cX4_isWellLaid 110 = .ok (.goto 4, 3) := by decide +kernel
theorem dX4_isWellLaid_113 : decode cX4_isWellLaid 113 = .ok (.iconst 0, 1) := by decide +kernel
theorem dX4_isWellLaid_114 : decode cX4_isWellLaid 114 = .ok (.ireturn, 1) := by decide +kernel
theorem dX5_init_0 : decode cX5_init 0 = .ok (.aload_n 0, 1) := by decide +kernel
theorem dX5_init_1 : decode cX5_init 1 = .ok (.invokespecial 3, 3) := by decide +kernel
theorem dX5_init_4 : decode cX5_init 4 = .ok (.aload_n 0, 1) := by decide +kernel
theorem dX5_init_5 : decode cX5_init 5 = .ok (.new 9, 3) := by decide +kernel
theorem dX5_init_8 : decode cX5_init 8 = .ok (.dup, 1) := by decide +kernel
theorem dX5_init_9 : decode cX5_init 9 = .ok (.bipush 80, 2) := by decide +kernel
theorem dX5_init_11 : decode cX5_init 11 = .ok (.invokespecial 11, 3) := by decide +kernel
theorem dX5_init_14 : decode cX5_init 14 = .ok (.putfield 14, 3) := by decide +kernel
theorem dX5_init_17 : decode cX5_init 17 = .ok (.aload_n 0, 1) := by decide +kernel
theorem dX5_init_18 : decode cX5_init 18 = .ok (.new 18, 3) := by decide +kernel
theorem dX5_init_21 : decode cX5_init 21 = .ok (.dup, 1) := by decide +kernel
theorem dX5_init_22 : decode cX5_init 22 = .ok (.invokespecial 20, 3) := by decide +kernel
theorem dX5_init_25 : decode cX5_init 25 = .ok (.putfield 21, 3) := by decide +kernel
theorem dX5_init_28 : decode cX5_init 28 = .ok (.aload_n 0, 1) := by decide +kernel
theorem dX5_init_29 : decode cX5_init 29 = .ok (.new 25, 3) := by decide +kernel
theorem dX5_init_32 : decode cX5_init 32 = .ok (.dup, 1) := by decide +kernel
theorem dX5_init_33 : decode cX5_init 33 = .ok (.invokespecial 27, 3) := by decide +kernel
theorem dX5_init_36 : decode cX5_init 36 = .ok (.putfield 28, 3) := by decide +kernel
theorem dX5_init_39 : decode cX5_init 39 = .ok (.aload_n 0, 1) := by decide +kernel
theorem dX5_init_40 : decode cX5_init 40 = .ok (.bipush 6, 2) := by decide +kernel
theorem dX5_init_42 : decode cX5_init 42 = .ok (.anewarray 32, 3) := by decide +kernel
theorem dX5_init_45 : decode cX5_init 45 = .ok (.putfield 34, 3) := by decide +kernel
theorem dX5_init_48 : decode cX5_init 48 = .ok (.aload_n 0, 1) := by decide +kernel
theorem dX5_init_49 : decode cX5_init 49 = .ok (.new 38, 3) := by decide +kernel
theorem dX5_init_52 : decode cX5_init 52 = .ok (.dup, 1) := by decide +kernel
theorem dX5_init_53 : decode cX5_init 53 = .ok (.bipush 40, 2) := by decide +kernel
theorem dX5_init_55 : decode cX5_init 55 = .ok (.sipush 160, 3) := by decide +kernel
theorem dX5_init_58 : decode cX5_init 58 = .ok (.invokespecial 40, 3) := by decide +kernel
theorem dX5_init_61 : decode cX5_init 61 = .ok (.putfield 43, 3) := by decide +kernel
theorem dX5_init_64 : decode cX5_init 64 = .ok (.aload_n 0, 1) := by decide +kernel
theorem dX5_init_65 : decode cX5_init 65 = .ok (.iconst 0, 1) := by decide +kernel
theorem dX5_init_66 : decode cX5_init 66 = .ok (.putfield 47, 3) := by decide +kernel
theorem dX5_init_69 : decode cX5_init 69 = .ok (.aload_n 0, 1) := by decide +kernel
theorem dX5_init_70 : decode cX5_init 70 = .ok (.bipush 20, 2) := by decide +kernel
theorem dX5_init_72 : decode cX5_init 72 = .ok (.putfield 51, 3) := by decide +kernel
theorem dX5_init_75 : decode cX5_init 75 = .ok (.return_, 1) := by decide +kernel
theorem dX5_type_0 : decode cX5_type 0 = .ok (.iload_n 1, 1) := by decide +kernel
theorem dX5_type_1 : decode cX5_type 1 = .ok (.bipush 32, 2) := by decide +kernel
theorem dX5_type_3 : decode cX5_type 3 = .ok (.if_icmp .eq 25, 3) := by decide +kernel
theorem dX5_type_6 : decode cX5_type 6 = .ok (.iload_n 1, 1) := by decide +kernel
theorem dX5_type_7 : decode cX5_type 7 = .ok (.bipush 97, 2) := by decide +kernel
theorem dX5_type_9 : decode cX5_type 9 = .ok (.if_icmp .lt 9, 3) := by decide +kernel
theorem dX5_type_12 : decode cX5_type 12 = .ok (.iload_n 1, 1) := by decide +kernel
theorem dX5_type_13 : decode cX5_type 13 = .ok (.bipush 122, 2) := by decide +kernel
theorem dX5_type_15 : decode cX5_type 15 = .ok (.if_icmp .le 13, 3) := by decide +kernel
theorem dX5_type_18 : decode cX5_type 18 = .ok (.new 54, 3) := by decide +kernel
theorem dX5_type_21 : decode cX5_type 21 = .ok (.dup, 1) := by decide +kernel
theorem dX5_type_22 : decode cX5_type 22 = .ok (.ldc 56, 2) := by decide +kernel
theorem dX5_type_24 : decode cX5_type 24 = .ok (.invokespecial 58, 3) := by decide +kernel
theorem dX5_type_27 : decode cX5_type 27 = .ok (.athrow, 1) := by decide +kernel
theorem dX5_type_28 : decode cX5_type 28 = .ok (.aload_n 0, 1) := by decide +kernel
theorem dX5_type_29 : decode cX5_type 29 = .ok (.getfield 14, 3) := by decide +kernel
theorem dX5_type_32 : decode cX5_type 32 = .ok (.invokevirtual 61, 3) := by decide +kernel
theorem dX5_type_35 : decode cX5_type 35 = .ok (.ifCond .eq 13, 3) := by decide +kernel
theorem dX5_type_38 : decode cX5_type 38 = .ok (.new 65, 3) := by decide +kernel
theorem dX5_type_41 : decode cX5_type 41 = .ok (.dup, 1) := by decide +kernel
theorem dX5_type_42 : decode cX5_type 42 = .ok (.ldc 67, 2) := by decide +kernel
theorem dX5_type_44 : decode cX5_type 44 = .ok (.invokespecial 69, 3) := by decide +kernel
theorem dX5_type_47 : decode cX5_type 47 = .ok (.athrow, 1) := by decide +kernel
theorem dX5_type_48 : decode cX5_type 48 = .ok (.aload_n 0, 1) := by decide +kernel
theorem dX5_type_49 : decode cX5_type 49 = .ok (.getfield 14, 3) := by decide +kernel
theorem dX5_type_52 : decode cX5_type 52 = .ok (.iload_n 1, 1) := by decide +kernel
theorem dX5_type_53 : decode cX5_type 53 = .ok (.invokevirtual 70, 3) := by decide +kernel
theorem dX5_type_56 : decode cX5_type 56 = .ok (.aload_n 0, 1) := by decide +kernel
theorem dX5_type_57 : decode cX5_type 57 = .ok (.getfield 14, 3) := by decide +kernel
theorem dX5_type_60 : decode cX5_type 60 = .ok (.invokevirtual 73, 3) := by decide +kernel
theorem dX5_type_63 : decode cX5_type 63 = .ok (.ireturn, 1) := by decide +kernel
theorem dX5_clear_0 : decode cX5_clear 0 = .ok (.aload_n 0, 1) := by decide +kernel
theorem dX5_clear_1 : decode cX5_clear 1 = .ok (.getfield 14, 3) := by decide +kernel
theorem dX5_clear_4 : decode cX5_clear 4 = .ok (.invokevirtual 73, 3) := by decide +kernel
theorem dX5_clear_7 : decode cX5_clear 7 = .ok (.istore_n 1, 1) := by decide +kernel
theorem dX5_clear_8 : decode cX5_clear 8 = .ok (.aload_n 0, 1) := by decide +kernel
theorem dX5_clear_9 : decode cX5_clear 9 = .ok (.getfield 14, 3) := by decide +kernel
theorem dX5_clear_12 : decode cX5_clear 12 = .ok (.invokevirtual 77, 3) := by decide +kernel
theorem dX5_clear_15 : decode cX5_clear 15 = .ok (.iload_n 1, 1) := by decide +kernel
theorem dX5_clear_16 : decode cX5_clear 16 = .ok (.ireturn, 1) := by decide +kernel
theorem dX5_addRule_0 : decode cX5_addRule 0 = .ok (.aload_n 0, 1) := by decide +kernel
theorem dX5_addRule_1 : decode cX5_addRule 1 = .ok (.invokevirtual 80, 3) := by decide +kernel
theorem dX5_addRule_4 : decode cX5_addRule 4 = .ok (.istore 4, 2) := by decide +kernel
theorem dX5_addRule_6 : decode cX5_addRule 6 = .ok (.iload_n 1, 1) := by decide +kernel
theorem dX5_addRule_7 : decode cX5_addRule 7 = .ok (.iload_n 2, 1) := by decide +kernel
theorem dX5_addRule_8 : decode cX5_addRule 8 = .ok (.iload_n 3, 1) := by decide +kernel
theorem dX5_addRule_9 : decode cX5_addRule 9 = .ok (.invokestatic 83, 3) := by decide +kernel
theorem dX5_addRule_12 : decode cX5_addRule 12 = .ok (.ifCond .eq 8, 3) := by decide +kernel
theorem dX5_addRule_15 : decode cX5_addRule 15 = .ok (.iload 4, 2) := by decide +kernel
theorem dX5_addRule_17 : decode cX5_addRule 17 = .ok (.ifCond .ne 13, 3) := by decide +kernel
theorem dX5_addRule_20 : decode cX5_addRule 20 = .ok (.new 54, 3) := by decide +kernel
theorem dX5_addRule_23 : decode cX5_addRule 23 = .ok (.dup, 1) := by decide +kernel
theorem dX5_addRule_24 : decode cX5_addRule 24 = .ok (.ldc 87, 2) := by decide +kernel
theorem dX5_addRule_26 : decode cX5_addRule 26 = .ok (.invokespecial 58, 3) := by decide +kernel
theorem dX5_addRule_29 : decode cX5_addRule 29 = .ok (.athrow, 1) := by decide +kernel
theorem dX5_addRule_30 : decode cX5_addRule 30 = .ok (.aload_n 0, 1) := by decide +kernel
theorem dX5_addRule_31 : decode cX5_addRule 31 = .ok (.getfield 21, 3) := by decide +kernel
theorem dX5_addRule_34 : decode cX5_addRule 34 = .ok (.invokevirtual 89, 3) := by decide +kernel
theorem dX5_addRule_37 : decode cX5_addRule 37 = .ok (.ifCond .eq 13, 3) := by decide +kernel
theorem dX5_addRule_40 : decode cX5_addRule 40 = .ok (.new 65, 3) := by decide +kernel
theorem dX5_addRule_43 : decode cX5_addRule 43 = .ok (.dup, 1) := by decide +kernel
theorem dX5_addRule_44 : decode cX5_addRule 44 = .ok (.ldc 90, 2) := by decide +kernel
theorem dX5_addRule_46 : decode cX5_addRule 46 = .ok (.invokespecial 69, 3) := by decide +kernel
theorem dX5_addRule_49 : decode cX5_addRule 49 = .ok (.athrow, 1) := by decide +kernel
theorem dX5_addRule_50 : decode cX5_addRule 50 = .ok (.aload_n 0, 1) := by decide +kernel
theorem dX5_addRule_51 : decode cX5_addRule 51 = .ok (.getfield 21, 3) := by decide +kernel
theorem dX5_addRule_54 : decode cX5_addRule 54 = .ok (.iload 4, 2) := by decide +kernel
theorem dX5_addRule_56 : decode cX5_addRule 56 = .ok (.invokevirtual 92, 3) := by decide +kernel
theorem dX5_addRule_59 : decode cX5_addRule 59 = .ok (.iconst (-1), 1) := by decide +kernel
theorem dX5_addRule_60 : decode cX5_addRule 60 = .ok (.if_icmp .eq 13, 3) := by decide +kernel
theorem dX5_addRule_63 : decode cX5_addRule 63 = .ok (.new 96, 3) := by decide +kernel
theorem dX5_addRule_66 : decode cX5_addRule 66 = .ok (.dup, 1) := by decide +kernel
theorem dX5_addRule_67 : decode cX5_addRule 67 = .ok (.ldc 98, 2) := by decide +kernel
theorem dX5_addRule_69 : decode cX5_addRule 69 = .ok (.invokespecial 100, 3) := by decide +kernel
theorem dX5_addRule_72 : decode cX5_addRule 72 = .ok (.athrow, 1) := by decide +kernel
theorem dX5_addRule_73 : decode cX5_addRule 73 = .ok (.aload_n 0, 1) := by decide +kernel
theorem dX5_addRule_74 : decode cX5_addRule 74 = .ok (.getfield 21, 3) := by decide +kernel
theorem dX5_addRule_77 : decode cX5_addRule 77 = .ok (.iload 4, 2) := by decide +kernel
theorem dX5_addRule_79 : decode cX5_addRule 79 = .ok (.iload_n 1, 1) := by decide +kernel
theorem dX5_addRule_80 : decode cX5_addRule 80 = .ok (.iload_n 2, 1) := by decide +kernel
theorem dX5_addRule_81 : decode cX5_addRule 81 = .ok (.iload_n 3, 1) := by decide +kernel
theorem dX5_addRule_82 : decode cX5_addRule 82 = .ok (.invokevirtual 101, 3) := by decide +kernel
theorem dX5_addRule_85 : decode cX5_addRule 85 = .ok (.istore 5, 2) := by decide +kernel
theorem dX5_addRule_87 : decode cX5_addRule 87 = .ok (.aload_n 0, 1) := by decide +kernel
theorem dX5_addRule_88 : decode cX5_addRule 88 = .ok (.getfield 14, 3) := by decide +kernel
theorem dX5_addRule_91 : decode cX5_addRule 91 = .ok (.invokevirtual 77, 3) := by decide +kernel
theorem dX5_addRule_94 : decode cX5_addRule 94 = .ok (.aload_n 0, 1) := by decide +kernel
theorem dX5_addRule_95 : decode cX5_addRule 95 = .ok (.invokevirtual 105, 3) := by decide +kernel
theorem dX5_addRule_98 : decode cX5_addRule 98 = .ok (.pop, 1) := by decide +kernel
theorem dX5_addRule_99 : decode cX5_addRule 99 = .ok (.iload 5, 2) := by decide +kernel
theorem dX5_addRule_101 : decode cX5_addRule 101 = .ok (.ireturn, 1) := by decide +kernel
theorem dX5_mend_0 : decode cX5_mend 0 = .ok (.iload_n 1, 1) := by decide +kernel
theorem dX5_mend_1 : decode cX5_mend 1 = .ok (.iload_n 2, 1) := by decide +kernel
theorem dX5_mend_2 : decode cX5_mend 2 = .ok (.iload_n 3, 1) := by decide +kernel
theorem dX5_mend_3 : decode cX5_mend 3 = .ok (.invokestatic 83, 3) := by decide +kernel
theorem dX5_mend_6 : decode cX5_mend 6 = .ok (.ifCond .ne 13, 3) := by decide +kernel
theorem dX5_mend_9 : decode cX5_mend 9 = .ok (.new 54, 3) := by decide +kernel
theorem dX5_mend_12 : decode cX5_mend 12 = .ok (.dup, 1) := by decide +kernel
theorem dX5_mend_13 : decode cX5_mend 13 = .ok (.ldc 108, 2) := by decide +kernel
theorem dX5_mend_15 : decode cX5_mend 15 = .ok (.invokespecial 58, 3) := by decide +kernel
theorem dX5_mend_18 : decode cX5_mend 18 = .ok (.athrow, 1) := by decide +kernel
theorem dX5_mend_19 : decode cX5_mend 19 = .ok (.aload_n 0, 1) := by decide +kernel
theorem dX5_mend_20 : decode cX5_mend 20 = .ok (.getfield 21, 3) := by decide +kernel
theorem dX5_mend_23 : decode cX5_mend 23 = .ok (.aload_n 0, 1) := by decide +kernel
theorem dX5_mend_24 : decode cX5_mend 24 = .ok (.invokevirtual 80, 3) := by decide +kernel
theorem dX5_mend_27 : decode cX5_mend 27 = .ok (.invokevirtual 92, 3) := by decide +kernel
theorem dX5_mend_30 : decode cX5_mend 30 = .ok (.istore 4, 2) := by decide +kernel
theorem dX5_mend_32 : decode cX5_mend 32 = .ok (.iload 4, 2) := by decide +kernel
theorem dX5_mend_34 : decode cX5_mend 34 = .ok (.iconst (-1), 1) := by decide +kernel
theorem dX5_mend_35 : decode cX5_mend 35 = .ok (.if_icmp .ne 13, 3) := by decide +kernel
theorem dX5_mend_38 : decode cX5_mend 38 = .ok (.new 110, 3) := by decide +kernel
theorem dX5_mend_41 : decode cX5_mend 41 = .ok (.dup, 1) := by decide +kernel
theorem dX5_mend_42 : decode cX5_mend 42 = .ok (.ldc 112, 2) := by decide +kernel
theorem dX5_mend_44 : decode cX5_mend 44 = .ok (.invokespecial 114, 3) := by decide +kernel
theorem dX5_mend_47 : decode cX5_mend 47 = .ok (.athrow, 1) := by decide +kernel
theorem dX5_mend_48 : decode cX5_mend 48 = .ok (.aload_n 0, 1) := by decide +kernel
theorem dX5_mend_49 : decode cX5_mend 49 = .ok (.getfield 21, 3) := by decide +kernel
theorem dX5_mend_52 : decode cX5_mend 52 = .ok (.iload 4, 2) := by decide +kernel
theorem dX5_mend_54 : decode cX5_mend 54 = .ok (.iload_n 1, 1) := by decide +kernel
theorem dX5_mend_55 : decode cX5_mend 55 = .ok (.iload_n 2, 1) := by decide +kernel
theorem dX5_mend_56 : decode cX5_mend 56 = .ok (.iload_n 3, 1) := by decide +kernel
theorem dX5_mend_57 : decode cX5_mend 57 = .ok (.invokevirtual 115, 3) := by decide +kernel
theorem dX5_mend_60 : decode cX5_mend 60 = .ok (.aload_n 0, 1) := by decide +kernel
theorem dX5_mend_61 : decode cX5_mend 61 = .ok (.getfield 14, 3) := by decide +kernel
theorem dX5_mend_64 : decode cX5_mend 64 = .ok (.invokevirtual 77, 3) := by decide +kernel
theorem dX5_mend_67 : decode cX5_mend 67 = .ok (.aload_n 0, 1) := by decide +kernel
theorem dX5_mend_68 : decode cX5_mend 68 = .ok (.invokevirtual 105, 3) := by decide +kernel
theorem dX5_mend_71 : decode cX5_mend 71 = .ok (.ireturn, 1) := by decide +kernel
theorem dX5_removeRule_0 : decode cX5_removeRule 0 = .ok (.aload_n 0, 1) := by decide +kernel
theorem dX5_removeRule_1 : decode cX5_removeRule 1 = .ok (.getfield 21, 3) := by decide +kernel
theorem dX5_removeRule_4 : decode cX5_removeRule 4 = .ok (.iload_n 1, 1) := by decide +kernel
theorem dX5_removeRule_5 : decode cX5_removeRule 5 = .ok (.invokevirtual 119, 3) := by decide +kernel
theorem dX5_removeRule_8 : decode cX5_removeRule 8 = .ok (.ifCond .ne 13, 3) := by decide +kernel
theorem dX5_removeRule_11 : decode cX5_removeRule 11 = .ok (.new 123, 3) := by decide +kernel
theorem dX5_removeRule_14 : decode cX5_removeRule 14 = .ok (.dup, 1) := by decide +kernel
theorem dX5_removeRule_15 : decode cX5_removeRule 15 = .ok (.ldc 125, 2) := by decide +kernel
theorem dX5_removeRule_17 : decode cX5_removeRule 17 = .ok (.invokespecial 127, 3) := by decide +kernel
theorem dX5_removeRule_20 : decode cX5_removeRule 20 = .ok (.athrow, 1) := by decide +kernel
theorem dX5_removeRule_21 : decode cX5_removeRule 21 = .ok (.aload_n 0, 1) := by decide +kernel
theorem dX5_removeRule_22 : decode cX5_removeRule 22 = .ok (.getfield 21, 3) := by decide +kernel
theorem dX5_removeRule_25 : decode cX5_removeRule 25 = .ok (.iload_n 1, 1) := by decide +kernel
theorem dX5_removeRule_26 : decode cX5_removeRule 26 = .ok (.invokevirtual 128, 3) := by decide +kernel
theorem dX5_removeRule_29 : decode cX5_removeRule 29 = .ok (.aload_n 0, 1) := by decide +kernel
theorem dX5_removeRule_30 : decode cX5_removeRule 30 = .ok (.invokevirtual 105, 3) := by decide +kernel
theorem dX5_removeRule_33 : decode cX5_removeRule 33 = .ok (.pop, 1) := by decide +kernel
theorem dX5_removeRule_34 : decode cX5_removeRule 34 = .ok (.aload_n 0, 1) := by decide +kernel
theorem dX5_removeRule_35 : decode cX5_removeRule 35 = .ok (.getfield 21, 3) := by decide +kernel
theorem dX5_removeRule_38 : decode cX5_removeRule 38 = .ok (.invokevirtual 131, 3) := by decide +kernel
theorem dX5_removeRule_41 : decode cX5_removeRule 41 = .ok (.ireturn, 1) := by decide +kernel
theorem dX5_ruleAt_0 : decode cX5_ruleAt 0 = .ok (.aload_n 0, 1) := by decide +kernel
theorem dX5_ruleAt_1 : decode cX5_ruleAt 1 = .ok (.getfield 21, 3) := by decide +kernel
theorem dX5_ruleAt_4 : decode cX5_ruleAt 4 = .ok (.iload_n 1, 1) := by decide +kernel
theorem dX5_ruleAt_5 : decode cX5_ruleAt 5 = .ok (.invokevirtual 119, 3) := by decide +kernel
theorem dX5_ruleAt_8 : decode cX5_ruleAt 8 = .ok (.ifCond .ne 13, 3) := by decide +kernel
theorem dX5_ruleAt_11 : decode cX5_ruleAt 11 = .ok (.new 123, 3) := by decide +kernel
theorem dX5_ruleAt_14 : decode cX5_ruleAt 14 = .ok (.dup, 1) := by decide +kernel
theorem dX5_ruleAt_15 : decode cX5_ruleAt 15 = .ok (.ldc 125, 2) := by decide +kernel
theorem dX5_ruleAt_17 : decode cX5_ruleAt 17 = .ok (.invokespecial 127, 3) := by decide +kernel
theorem dX5_ruleAt_20 : decode cX5_ruleAt 20 = .ok (.athrow, 1) := by decide +kernel
theorem dX5_ruleAt_21 : decode cX5_ruleAt 21 = .ok (.aload_n 0, 1) := by decide +kernel
theorem dX5_ruleAt_22 : decode cX5_ruleAt 22 = .ok (.getfield 21, 3) := by decide +kernel
theorem dX5_ruleAt_25 : decode cX5_ruleAt 25 = .ok (.iload_n 1, 1) := by decide +kernel
theorem dX5_ruleAt_26 : decode cX5_ruleAt 26 = .ok (.iload_n 2, 1) := by decide +kernel
theorem dX5_ruleAt_27 : decode cX5_ruleAt 27 = .ok (.invokevirtual 132, 3) := by decide +kernel
theorem dX5_ruleAt_30 : decode cX5_ruleAt 30 = .ok (.istore_n 3, 1) := by decide +kernel
theorem dX5_ruleAt_31 : decode cX5_ruleAt 31 = .ok (.iload_n 3, 1) := by decide +kernel
theorem dX5_ruleAt_32 : decode cX5_ruleAt 32 = .ok (.iconst (-1), 1) := by decide +kernel
theorem dX5_ruleAt_33 : decode cX5_ruleAt 33 = .ok (.if_icmp .ne 13, 3) := by decide +kernel
theorem dX5_ruleAt_36 : decode cX5_ruleAt 36 = .ok (.new 110, 3) := by decide +kernel
theorem dX5_ruleAt_39 : decode cX5_ruleAt 39 = .ok (.dup, 1) := by decide +kernel
theorem dX5_ruleAt_40 : decode cX5_ruleAt 40 = .ok (.ldc 136, 2) := by decide +kernel
theorem dX5_ruleAt_42 : decode cX5_ruleAt 42 = .ok (.invokespecial 114, 3) := by decide +kernel
theorem dX5_ruleAt_45 : decode cX5_ruleAt 45 = .ok (.athrow, 1) := by decide +kernel
theorem dX5_ruleAt_46 : decode cX5_ruleAt 46 = .ok (.iload_n 3, 1) := by decide +kernel
theorem dX5_ruleAt_47 : decode cX5_ruleAt 47 = .ok (.i2c, 1) := by decide +kernel
theorem dX5_ruleAt_48 : decode cX5_ruleAt 48 = .ok (.ireturn, 1) := by decide +kernel
theorem dX5_turnException_0 : decode cX5_turnException 0 = .ok (.aload_n 0, 1) := by decide +kernel
theorem dX5_turnException_1 : decode cX5_turnException 1 = .ok (.getfield 14, 3) := by decide +kernel
theorem dX5_turnException_4 : decode cX5_turnException 4 = .ok (.invokevirtual 73, 3) := by decide +kernel
theorem dX5_turnException_7 : decode cX5_turnException 7 = .ok (.ifCond .eq 16, 3) := by decide +kernel
theorem dX5_turnException_10 : decode cX5_turnException 10 = .ok (.aload_n 0, 1) := by decide +kernel
theorem dX5_turnException_11 : decode cX5_turnException 11 = .ok (.getfield 14, 3) := by decide +kernel
theorem dX5_turnException_14 : decode cX5_turnException 14 = .ok (.bipush 32, 2) := by decide +kernel
theorem dX5_turnException_16 : decode cX5_turnException 16 = .ok (.invokevirtual 138, 3) := by decide +kernel
theorem dX5_turnException_19 : decode cX5_turnException 19 = .ok (.iconst (-1), 1) := by decide +kernel
theorem dX5_turnException_20 : decode cX5_turnException 20 = .ok (.if_icmp .eq 13, 3) := by decide +kernel
theorem dX5_turnException_23 : decode cX5_turnException 23 = .ok (.new 54, 3) := by decide +kernel
theorem dX5_turnException_26 : decode cX5_turnException 26 = .ok (.dup, 1) := by decide +kernel
theorem dX5_turnException_27 : decode cX5_turnException 27 = .ok (.ldc 139, 2) := by decide +kernel
theorem dX5_turnException_29 : decode cX5_turnException 29 = .ok (.invokespecial 58, 3) := by decide +kernel
theorem dX5_turnException_32 : decode cX5_turnException 32 = .ok (.athrow, 1) := by decide +kernel
theorem dX5_turnException_33 : decode cX5_turnException 33 = .ok (.aload_n 0, 1) := by decide +kernel
theorem dX5_turnException_34 : decode cX5_turnException 34 = .ok (.getfield 21, 3) := by decide +kernel
theorem dX5_turnException_37 : decode cX5_turnException 37 = .ok (.aload_n 0, 1) := by decide +kernel
theorem dX5_turnException_38 : decode cX5_turnException 38 = .ok (.getfield 14, 3) := by decide +kernel
theorem dX5_turnException_41 : decode cX5_turnException 41 = .ok (.iconst 0, 1) := by decide +kernel
theorem dX5_turnException_42 : decode cX5_turnException 42 = .ok (.aload_n 0, 1) := by decide +kernel
theorem dX5_turnException_43 : decode cX5_turnException 43 = .ok (.getfield 14, 3) := by decide +kernel
theorem dX5_turnException_46 : decode cX5_turnException 46 = .ok (.invokevirtual 73, 3) := by decide +kernel
theorem dX5_turnException_49 : decode cX5_turnException 49 = .ok (.invokevirtual 141, 3) := by decide +kernel
theorem dX5_turnException_52 : decode cX5_turnException 52 = .ok (.istore_n 1, 1) := by decide +kernel
theorem dX5_turnException_53 : decode cX5_turnException 53 = .ok (.iload_n 1, 1) := by decide +kernel
theorem dX5_turnException_54 : decode cX5_turnException 54 = .ok (.iconst (-1), 1) := by decide +kernel
theorem dX5_turnException_55 : decode cX5_turnException 55 = .ok (.if_icmp .ne 23, 3) := by decide +kernel
theorem dX5_turnException_58 : decode cX5_turnException 58 = .ok (.aload_n 0, 1) := by decide +kernel
theorem dX5_turnException_59 : decode cX5_turnException 59 = .ok (.getfield 21, 3) := by decide +kernel
theorem dX5_turnException_62 : decode cX5_turnException 62 = .ok (.invokevirtual 145, 3) := by decide +kernel
theorem dX5_turnException_65 : decode cX5_turnException 65 = .ok (.ifCond .eq 13, 3) := by decide +kernel
theorem dX5_turnException_68 : decode cX5_turnException 68 = .ok (.new 65, 3) := by decide +kernel
theorem dX5_turnException_71 : decode cX5_turnException 71 = .ok (.dup, 1) := by decide +kernel
theorem dX5_turnException_72 : decode cX5_turnException 72 = .ok (.ldc 148, 2) := by decide +kernel
theorem dX5_turnException_74 : decode cX5_turnException 74 = .ok (.invokespecial 69, 3) := by decide +kernel
theorem dX5_turnException_77 : decode cX5_turnException 77 = .ok (.athrow, 1) := by decide +kernel
theorem dX5_turnException_78 : decode cX5_turnException 78 = .ok (.iload_n 1, 1) := by decide +kernel
theorem dX5_turnException_79 : decode cX5_turnException 79 = .ok (.iconst (-1), 1) := by decide +kernel
theorem dX5_turnException_80 : decode cX5_turnException 80 = .ok (.if_icmp .ne 17, 3) := by decide +kernel
theorem dX5_turnException_83 : decode cX5_turnException 83 = .ok (.aload_n 0, 1) := by decide +kernel
theorem dX5_turnException_84 : decode cX5_turnException 84 = .ok (.getfield 21, 3) := by decide +kernel
theorem dX5_turnException_87 : decode cX5_turnException 87 = .ok (.aload_n 0, 1) := by decide +kernel
theorem dX5_turnException_88 : decode cX5_turnException 88 = .ok (.getfield 14, 3) := by decide +kernel
theorem dX5_turnException_91 : decode cX5_turnException 91 = .ok (.invokevirtual 150, 3) := by decide +kernel
theorem dX5_turnException_94 : decode cX5_turnException 94 = .ok (.goto 11, 3) := by decide +kernel
theorem dX5_turnException_97 : decode cX5_turnException 97 = .ok (.aload_n 0, 1) := by decide +kernel
theorem dX5_turnException_98 : decode cX5_turnException 98 = .ok (.getfield 21, 3) := by decide +kernel
theorem dX5_turnException_101 : decode cX5_turnException 101 = .ok (.iload_n 1, 1) := by decide +kernel
theorem dX5_turnException_102 : decode cX5_turnException 102 = .ok (.invokevirtual 154, 3) := by decide +kernel
theorem dX5_turnException_105 : decode cX5_turnException 105 = .ok (.aload_n 0, 1) := by decide +kernel
theorem dX5_turnException_106 : decode cX5_turnException 106 = .ok (.getfield 14, 3) := by decide +kernel
theorem dX5_turnException_109 : decode cX5_turnException 109 = .ok (.invokevirtual 77, 3) := by decide +kernel
theorem dX5_turnException_112 : decode cX5_turnException 112 = .ok (.aload_n 0, 1) := by decide +kernel
theorem dX5_turnException_113 : decode cX5_turnException 113 = .ok (.invokevirtual 105, 3) := by decide +kernel
theorem dX5_turnException_116 : decode cX5_turnException 116 = .ok (.pop, 1) := by decide +kernel
theorem dX5_turnException_117 : decode cX5_turnException 117 = .ok (.iload_n 1, 1) := by decide +kernel
theorem dX5_turnException_118 : decode cX5_turnException 118 = .ok (.iconst (-1), 1) := by decide +kernel
theorem dX5_turnException_119 : decode cX5_turnException 119 = .ok (.if_icmp .ne 7, 3) := by decide +kernel
theorem dX5_turnException_122 : decode cX5_turnException 122 = .ok (.iconst 1, 1) := by decide +kernel
theorem dX5_turnException_123 : decode cX5_turnException 123 = .ok (.goto 4, 3) := by decide +kernel
theorem dX5_turnException_126 : decode cX5_turnException 126 = .ok (.iconst 0, 1) := by decide +kernel
theorem dX5_turnException_127 : decode cX5_turnException 127 = .ok (.ireturn, 1) := by decide +kernel
theorem dX5_setText_0 : decode cX5_setText 0 = .ok (.iload_n 1, 1) := by decide +kernel
theorem dX5_setText_1 : decode cX5_setText 1 = .ok (.ifCond .lt 20, 3) := by decide +kernel
theorem dX5_setText_4 : decode cX5_setText 4 = .ok (.iload_n 1, 1) := by decide +kernel
theorem dX5_setText_5 : decode cX5_setText 5 = .ok (.aload_n 0, 1) := by decide +kernel
theorem dX5_setText_6 : decode cX5_setText 6 = .ok (.getfield 47, 3) := by decide +kernel
theorem dX5_setText_9 : decode cX5_setText 9 = .ok (.if_icmp .gt 12, 3) := by decide +kernel
theorem dX5_setText_12 : decode cX5_setText 12 = .ok (.iload_n 1, 1) := by decide +kernel
theorem dX5_setText_13 : decode cX5_setText 13 = .ok (.aload_n 0, 1) := by decide +kernel
theorem dX5_setText_14 : decode cX5_setText 14 = .ok (.getfield 34, 3) := by decide +kernel
theorem dX5_setText_17 : decode cX5_setText 17 = .ok (.arraylength, 1) := by decide +kernel
theorem dX5_setText_18 : decode cX5_setText 18 = .ok (.if_icmp .lt 13, 3) := by decide +kernel
theorem dX5_setText_21 : decode cX5_setText 21 = .ok (.new 123, 3) := by decide +kernel
theorem dX5_setText_24 : decode cX5_setText 24 = .ok (.dup, 1) := by decide +kernel
theorem dX5_setText_25 : decode cX5_setText 25 = .ok (.ldc 157, 2) := by decide +kernel
theorem dX5_setText_27 : decode cX5_setText 27 = .ok (.invokespecial 127, 3) := by decide +kernel
theorem dX5_setText_30 : decode cX5_setText 30 = .ok (.athrow, 1) := by decide +kernel
theorem dX5_setText_31 : decode cX5_setText 31 = .ok (.iload_n 2, 1) := by decide +kernel
theorem dX5_setText_32 : decode cX5_setText 32 = .ok (.invokestatic 159, 3) := by decide +kernel
theorem dX5_setText_35 : decode cX5_setText 35 = .ok (.ifCond .ne 13, 3) := by decide +kernel
theorem dX5_setText_38 : decode cX5_setText 38 = .ok (.new 54, 3) := by decide +kernel
theorem dX5_setText_41 : decode cX5_setText 41 = .ok (.dup, 1) := by decide +kernel
theorem dX5_setText_42 : decode cX5_setText 42 = .ok (.ldc 162, 2) := by decide +kernel
theorem dX5_setText_44 : decode cX5_setText 44 = .ok (.invokespecial 58, 3) := by decide +kernel
theorem dX5_setText_47 : decode cX5_setText 47 = .ok (.athrow, 1) := by decide +kernel
theorem dX5_setText_48 : decode cX5_setText 48 = .ok (.aload_n 0, 1) := by decide +kernel
theorem dX5_setText_49 : decode cX5_setText 49 = .ok (.getfield 34, 3) := by decide +kernel
theorem dX5_setText_52 : decode cX5_setText 52 = .ok (.iload_n 1, 1) := by decide +kernel
theorem dX5_setText_53 : decode cX5_setText 53 = .ok (.aaload, 1) := by decide +kernel
theorem dX5_setText_54 : decode cX5_setText 54 = .ok (.astore_n 3, 1) := by decide +kernel
theorem dX5_setText_55 : decode cX5_setText 55 = .ok (.aload_n 3, 1) := by decide +kernel
theorem dX5_setText_56 : decode cX5_setText 56 = .ok (.ifnonnull 28, 3) := by decide +kernel
theorem dX5_setText_59 : decode cX5_setText 59 = .ok (.new 32, 3) := by decide +kernel
theorem dX5_setText_62 : decode cX5_setText 62 = .ok (.dup, 1) := by decide +kernel
theorem dX5_setText_63 : decode cX5_setText 63 = .ok (.invokespecial 164, 3) := by decide +kernel
theorem dX5_setText_66 : decode cX5_setText 66 = .ok (.astore_n 3, 1) := by decide +kernel
theorem dX5_setText_67 : decode cX5_setText 67 = .ok (.aload_n 0, 1) := by decide +kernel
theorem dX5_setText_68 : decode cX5_setText 68 = .ok (.getfield 34, 3) := by decide +kernel
theorem dX5_setText_71 : decode cX5_setText 71 = .ok (.iload_n 1, 1) := by decide +kernel
theorem dX5_setText_72 : decode cX5_setText 72 = .ok (.aload_n 3, 1) := by decide +kernel
theorem dX5_setText_73 : decode cX5_setText 73 = .ok (.aastore, 1) := by decide +kernel
theorem dX5_setText_74 : decode cX5_setText 74 = .ok (.aload_n 0, 1) := by decide +kernel
theorem dX5_setText_75 : decode cX5_setText 75 = .ok (.dup, 1) := by decide +kernel
theorem dX5_setText_76 : decode cX5_setText 76 = .ok (.getfield 47, 3) := by decide +kernel
theorem dX5_setText_79 : decode cX5_setText 79 = .ok (.iconst 1, 1) := by decide +kernel
theorem dX5_setText_80 : decode cX5_setText 80 = .ok (.iadd, 1) := by decide +kernel
theorem dX5_setText_81 : decode cX5_setText 81 = .ok (.putfield 47, 3) := by decide +kernel
theorem dX5_setText_84 : decode cX5_setText 84 = .ok (.aload_n 3, 1) := by decide +kernel
theorem dX5_setText_85 : decode cX5_setText 85 = .ok (.aload_n 0, 1) := by decide +kernel
theorem dX5_setText_86 : decode cX5_setText 86 = .ok (.getfield 14, 3) := by decide +kernel
theorem dX5_setText_89 : decode cX5_setText 89 = .ok (.iload_n 2, 1) := by decide +kernel
theorem dX5_setText_90 : decode cX5_setText 90 = .ok (.invokevirtual 165, 3) := by decide +kernel
theorem dX5_setText_93 : decode cX5_setText 93 = .ok (.aload_n 3, 1) := by decide +kernel
theorem dX5_setText_94 : decode cX5_setText 94 = .ok (.aload_n 0, 1) := by decide +kernel
theorem dX5_setText_95 : decode cX5_setText 95 = .ok (.getfield 21, 3) := by decide +kernel
theorem dX5_setText_98 : decode cX5_setText 98 = .ok (.aload_n 0, 1) := by decide +kernel
theorem dX5_setText_99 : decode cX5_setText 99 = .ok (.getfield 43, 3) := by decide +kernel
theorem dX5_setText_102 : decode cX5_setText 102 = .ok (.invokevirtual 169, 3) := by decide +kernel
theorem dX5_setText_105 : decode cX5_setText 105 = .ok (.pop, 1) := by decide +kernel
theorem dX5_setText_106 : decode cX5_setText 106 = .ok (.aload_n 3, 1) := by decide +kernel
theorem dX5_setText_107 : decode cX5_setText 107 = .ok (.aload_n 0, 1) := by decide +kernel
theorem dX5_setText_108 : decode cX5_setText 108 = .ok (.getfield 51, 3) := by decide +kernel
theorem dX5_setText_111 : decode cX5_setText 111 = .ok (.invokevirtual 173, 3) := by decide +kernel
theorem dX5_setText_114 : decode cX5_setText 114 = .ok (.aload_n 0, 1) := by decide +kernel
theorem dX5_setText_115 : decode cX5_setText 115 = .ok (.getfield 14, 3) := by decide +kernel
theorem dX5_setText_118 : decode cX5_setText 118 = .ok (.invokevirtual 77, 3) := by decide +kernel
theorem dX5_setText_121 : decode cX5_setText 121 = .ok (.aload_n 3, 1) := by decide +kernel
theorem dX5_setText_122 : decode cX5_setText 122 = .ok (.invokevirtual 176, 3) := by decide +kernel
theorem dX5_setText_125 : decode cX5_setText 125 = .ok (.ireturn, 1) := by decide +kernel
theorem dX5_setWidth_0 : decode cX5_setWidth 0 = .ok (.iload_n 1, 1) := by decide +kernel
theorem dX5_setWidth_1 : decode cX5_setWidth 1 = .ok (.bipush 8, 2) := by decide +kernel
theorem dX5_setWidth_3 : decode cX5_setWidth 3 = .ok (.if_icmp .lt 9, 3) := by decide +kernel
theorem dX5_setWidth_6 : decode cX5_setWidth 6 = .ok (.iload_n 1, 1) := by decide +kernel
theorem dX5_setWidth_7 : decode cX5_setWidth 7 = .ok (.bipush 40, 2) := by decide +kernel
theorem dX5_setWidth_9 : decode cX5_setWidth 9 = .ok (.if_icmp .le 13, 3) := by decide +kernel
theorem dX5_setWidth_12 : decode cX5_setWidth 12 = .ok (.new 54, 3) := by decide +kernel
theorem dX5_setWidth_15 : decode cX5_setWidth 15 = .ok (.dup, 1) := by decide +kernel
theorem dX5_setWidth_16 : decode cX5_setWidth 16 = .ok (.ldc 179, 2) := by decide +kernel
theorem dX5_setWidth_18 : decode cX5_setWidth 18 = .ok (.invokespecial 58, 3) := by decide +kernel
theorem dX5_setWidth_21 : decode cX5_setWidth 21 = .ok (.athrow, 1) := by decide +kernel
theorem dX5_setWidth_22 : decode cX5_setWidth 22 = .ok (.aload_n 0, 1) := by decide +kernel
theorem dX5_setWidth_23 : decode cX5_setWidth 23 = .ok (.getfield 51, 3) := by decide +kernel
theorem dX5_setWidth_26 : decode cX5_setWidth 26 = .ok (.istore_n 2, 1) := by decide +kernel
theorem dX5_setWidth_27 : decode cX5_setWidth 27 = .ok (.aload_n 0, 1) := by decide +kernel
theorem dX5_setWidth_28 : decode cX5_setWidth 28 = .ok (.iload_n 1, 1) := by decide +kernel
theorem dX5_setWidth_29 : decode cX5_setWidth 29 = .ok (.putfield 51, 3) := by decide +kernel
theorem dX5_setWidth_32 : decode cX5_setWidth 32 = .ok (.aload_n 0, 1) := by decide +kernel
theorem dX5_setWidth_33 : decode cX5_setWidth 33 = .ok (.getfield 34, 3) := by decide +kernel
theorem dX5_setWidth_36 : decode cX5_setWidth 36 = .ok (.astore_n 3, 1) := by decide +kernel
theorem dX5_setWidth_37 : decode cX5_setWidth 37 = .ok (.aload_n 3, 1) := by decide +kernel
theorem dX5_setWidth_38 : decode cX5_setWidth 38 = .ok (.arraylength, 1) := by decide +kernel
theorem dX5_setWidth_39 : decode cX5_setWidth 39 = .ok (.istore 4, 2) := by decide +kernel
theorem dX5_setWidth_41 : decode cX5_setWidth 41 = .ok (.iconst 0, 1) := by decide +kernel
theorem dX5_setWidth_42 : decode cX5_setWidth 42 = .ok (.istore 5, 2) := by decide +kernel
theorem dX5_setWidth_44 : decode cX5_setWidth 44 = .ok (.iload 5, 2) := by decide +kernel
theorem dX5_setWidth_46 : decode cX5_setWidth 46 = .ok (.iload 4, 2) := by decide +kernel
theorem dX5_setWidth_48 : decode cX5_setWidth 48 = .ok (.if_icmp .ge 26, 3) := by decide +kernel
theorem dX5_setWidth_51 : decode cX5_setWidth 51 = .ok (.aload_n 3, 1) := by decide +kernel
theorem dX5_setWidth_52 : decode cX5_setWidth 52 = .ok (.iload 5, 2) := by decide +kernel
theorem dX5_setWidth_54 : decode cX5_setWidth 54 = .ok (.aaload, 1) := by decide +kernel
theorem dX5_setWidth_55 : decode cX5_setWidth 55 = .ok (.astore 6, 2) := by decide +kernel
theorem dX5_setWidth_57 : decode cX5_setWidth 57 = .ok (.aload 6, 2) := by decide +kernel
theorem dX5_setWidth_59 : decode cX5_setWidth 59 = .ok (.ifnull 9, 3) := by decide +kernel
theorem dX5_setWidth_62 : decode cX5_setWidth 62 = .ok (.aload 6, 2) := by decide +kernel
theorem dX5_setWidth_64 : decode cX5_setWidth 64 = .ok (.iload_n 1, 1) := by decide +kernel
theorem dX5_setWidth_65 : decode cX5_setWidth 65 = .ok (.invokevirtual 173, 3) := by decide +kernel
theorem dX5_setWidth_68 : decode cX5_setWidth 68 = .ok (.iinc 5 1, 3) := by decide +kernel
theorem dX5_setWidth_71 : decode cX5_setWidth 71 = .ok (.goto (-27), 3) := by decide +kernel
theorem dX5_setWidth_74 : decode cX5_setWidth 74 = .ok (.iload_n 2, 1) := by decide +kernel
theorem dX5_setWidth_75 : decode cX5_setWidth 75 = .ok (.ireturn, 1) := by decide +kernel
theorem dX5_words_0 : decode cX5_words 0 = .ok (.aload_n 0, 1) := by decide +kernel
theorem dX5_words_1 : decode cX5_words 1 = .ok (.iload_n 1, 1) := by decide +kernel
theorem dX5_words_2 : decode cX5_words 2 = .ok (.invokevirtual 181, 3) := by decide +kernel
theorem dX5_words_5 : decode cX5_words 5 = .ok (.invokevirtual 176, 3) := by decide +kernel
theorem dX5_words_8 : decode cX5_words 8 = .ok (.ireturn, 1) := by decide +kernel
theorem dX5_length_0 : decode cX5_length 0 = .ok (.aload_n 0, 1) := by decide +kernel
theorem dX5_length_1 : decode cX5_length 1 = .ok (.iload_n 1, 1) := by decide +kernel
theorem dX5_length_2 : decode cX5_length 2 = .ok (.iload_n 2, 1) := by decide +kernel
theorem dX5_length_3 : decode cX5_length 3 = .ok (.invokevirtual 185, 3) := by decide +kernel
theorem dX5_length_6 : decode cX5_length 6 = .ok (.iload_n 2, 1) := by decide +kernel
theorem dX5_length_7 : decode cX5_length 7 = .ok (.invokevirtual 189, 3) := by decide +kernel
theorem dX5_length_10 : decode cX5_length 10 = .ok (.ireturn, 1) := by decide +kernel
theorem dX5_cellOf_0 : decode cX5_cellOf 0 = .ok (.aload_n 0, 1) := by decide +kernel
theorem dX5_cellOf_1 : decode cX5_cellOf 1 = .ok (.iload_n 1, 1) := by decide +kernel
theorem dX5_cellOf_2 : decode cX5_cellOf 2 = .ok (.iload_n 2, 1) := by decide +kernel
theorem dX5_cellOf_3 : decode cX5_cellOf 3 = .ok (.invokevirtual 185, 3) := by decide +kernel
theorem dX5_cellOf_6 : decode cX5_cellOf 6 = .ok (.astore 4, 2) := by decide +kernel
theorem dX5_cellOf_8 : decode cX5_cellOf 8 = .ok (.iload_n 3, 1) := by decide +kernel
theorem dX5_cellOf_9 : decode cX5_cellOf 9 = .ok (.ifCond .lt 13, 3) := by decide +kernel
theorem dX5_cellOf_12 : decode cX5_cellOf 12 = .ok (.iload_n 3, 1) := by decide +kernel
theorem dX5_cellOf_13 : decode cX5_cellOf 13 = .ok (.aload 4, 2) := by decide +kernel
theorem dX5_cellOf_15 : decode cX5_cellOf 15 = .ok (.iload_n 2, 1) := by decide +kernel
theorem dX5_cellOf_16 : decode cX5_cellOf 16 = .ok (.invokevirtual 189, 3) := by decide +kernel
theorem dX5_cellOf_19 : decode cX5_cellOf 19 = .ok (.if_icmp .lt 13, 3) := by decide +kernel
theorem dX5_cellOf_22 : decode cX5_cellOf 22 = .ok (.new 110, 3) := by decide +kernel
theorem dX5_cellOf_25 : decode cX5_cellOf 25 = .ok (.dup, 1) := by decide +kernel
theorem dX5_cellOf_26 : decode cX5_cellOf 26 = .ok (.ldc 192, 2) := by decide +kernel
theorem dX5_cellOf_28 : decode cX5_cellOf 28 = .ok (.invokespecial 114, 3) := by decide +kernel
theorem dX5_cellOf_31 : decode cX5_cellOf 31 = .ok (.athrow, 1) := by decide +kernel
theorem dX5_cellOf_32 : decode cX5_cellOf 32 = .ok (.aload 4, 2) := by decide +kernel
theorem dX5_cellOf_34 : decode cX5_cellOf 34 = .ok (.iload_n 2, 1) := by decide +kernel
theorem dX5_cellOf_35 : decode cX5_cellOf 35 = .ok (.iload_n 3, 1) := by decide +kernel
theorem dX5_cellOf_36 : decode cX5_cellOf 36 = .ok (.invokevirtual 194, 3) := by decide +kernel
theorem dX5_cellOf_39 : decode cX5_cellOf 39 = .ok (.ireturn, 1) := by decide +kernel
theorem dX5_lines_0 : decode cX5_lines 0 = .ok (.aload_n 0, 1) := by decide +kernel
theorem dX5_lines_1 : decode cX5_lines 1 = .ok (.iload_n 1, 1) := by decide +kernel
theorem dX5_lines_2 : decode cX5_lines 2 = .ok (.invokevirtual 181, 3) := by decide +kernel
theorem dX5_lines_5 : decode cX5_lines 5 = .ok (.invokevirtual 197, 3) := by decide +kernel
theorem dX5_lines_8 : decode cX5_lines 8 = .ok (.ireturn, 1) := by decide +kernel
theorem dX5_lineAt_0 : decode cX5_lineAt 0 = .ok (.aload_n 0, 1) := by decide +kernel
theorem dX5_lineAt_1 : decode cX5_lineAt 1 = .ok (.iload_n 1, 1) := by decide +kernel
theorem dX5_lineAt_2 : decode cX5_lineAt 2 = .ok (.invokevirtual 181, 3) := by decide +kernel
theorem dX5_lineAt_5 : decode cX5_lineAt 5 = .ok (.astore 4, 2) := by decide +kernel
theorem dX5_lineAt_7 : decode cX5_lineAt 7 = .ok (.iload_n 2, 1) := by decide +kernel
theorem dX5_lineAt_8 : decode cX5_lineAt 8 = .ok (.ifCond .lt 12, 3) := by decide +kernel
theorem dX5_lineAt_11 : decode cX5_lineAt 11 = .ok (.iload_n 2, 1) := by decide +kernel
theorem dX5_lineAt_12 : decode cX5_lineAt 12 = .ok (.aload 4, 2) := by decide +kernel
theorem dX5_lineAt_14 : decode cX5_lineAt 14 = .ok (.invokevirtual 197, 3) := by decide +kernel
theorem dX5_lineAt_17 : decode cX5_lineAt 17 = .ok (.if_icmp .lt 13, 3) := by decide +kernel
theorem dX5_lineAt_20 : decode cX5_lineAt 20 = .ok (.new 123, 3) := by decide +kernel
theorem dX5_lineAt_23 : decode cX5_lineAt 23 = .ok (.dup, 1) := by decide +kernel
theorem dX5_lineAt_24 : decode cX5_lineAt 24 = .ok (.ldc 200, 2) := by decide +kernel
theorem dX5_lineAt_26 : decode cX5_lineAt 26 = .ok (.invokespecial 127, 3) := by decide +kernel
theorem dX5_lineAt_29 : decode cX5_lineAt 29 = .ok (.athrow, 1) := by decide +kernel
theorem dX5_lineAt_30 : decode cX5_lineAt 30 = .ok (.iload_n 3, 1) := by decide +kernel
theorem dX5_lineAt_31 : decode cX5_lineAt 31 = .ok (.ifCond .lt 13, 3) := by decide +kernel
theorem dX5_lineAt_34 : decode cX5_lineAt 34 = .ok (.iload_n 3, 1) := by decide +kernel
theorem dX5_lineAt_35 : decode cX5_lineAt 35 = .ok (.aload 4, 2) := by decide +kernel
theorem dX5_lineAt_37 : decode cX5_lineAt 37 = .ok (.iload_n 2, 1) := by decide +kernel
theorem dX5_lineAt_38 : decode cX5_lineAt 38 = .ok (.invokevirtual 202, 3) := by decide +kernel
theorem dX5_lineAt_41 : decode cX5_lineAt 41 = .ok (.if_icmp .lt 13, 3) := by decide +kernel
theorem dX5_lineAt_44 : decode cX5_lineAt 44 = .ok (.new 110, 3) := by decide +kernel
theorem dX5_lineAt_47 : decode cX5_lineAt 47 = .ok (.dup, 1) := by decide +kernel
theorem dX5_lineAt_48 : decode cX5_lineAt 48 = .ok (.ldc 205, 2) := by decide +kernel
theorem dX5_lineAt_50 : decode cX5_lineAt 50 = .ok (.invokespecial 114, 3) := by decide +kernel
theorem dX5_lineAt_53 : decode cX5_lineAt 53 = .ok (.athrow, 1) := by decide +kernel
theorem dX5_lineAt_54 : decode cX5_lineAt 54 = .ok (.aload 4, 2) := by decide +kernel
theorem dX5_lineAt_56 : decode cX5_lineAt 56 = .ok (.iload_n 2, 1) := by decide +kernel
theorem dX5_lineAt_57 : decode cX5_lineAt 57 = .ok (.iload_n 3, 1) := by decide +kernel
theorem dX5_lineAt_58 : decode cX5_lineAt 58 = .ok (.invokevirtual 207, 3) := by decide +kernel
theorem dX5_lineAt_61 : decode cX5_lineAt 61 = .ok (.ireturn, 1) := by decide +kernel
theorem dX5_lineOf_0 : decode cX5_lineOf 0 = .ok (.aload_n 0, 1) := by decide +kernel
theorem dX5_lineOf_1 : decode cX5_lineOf 1 = .ok (.iload_n 1, 1) := by decide +kernel
theorem dX5_lineOf_2 : decode cX5_lineOf 2 = .ok (.iload_n 2, 1) := by decide +kernel
theorem dX5_lineOf_3 : decode cX5_lineOf 3 = .ok (.invokevirtual 185, 3) := by decide +kernel
theorem dX5_lineOf_6 : decode cX5_lineOf 6 = .ok (.iload_n 2, 1) := by decide +kernel
theorem dX5_lineOf_7 : decode cX5_lineOf 7 = .ok (.invokevirtual 210, 3) := by decide +kernel
theorem dX5_lineOf_10 : decode cX5_lineOf 10 = .ok (.ireturn, 1) := by decide +kernel
theorem dX5_emboss_0 : decode cX5_emboss 0 = .ok (.aload_n 0, 1) := by decide +kernel
theorem dX5_emboss_1 : decode cX5_emboss 1 = .ok (.iload_n 1, 1) := by decide +kernel
theorem dX5_emboss_2 : decode cX5_emboss 2 = .ok (.invokevirtual 181, 3) := by decide +kernel
theorem dX5_emboss_5 : decode cX5_emboss 5 = .ok (.astore_n 2, 1) := by decide +kernel
theorem dX5_emboss_6 : decode cX5_emboss 6 = .ok (.aload_n 0, 1) := by decide +kernel
theorem dX5_emboss_7 : decode cX5_emboss 7 = .ok (.getfield 28, 3) := by decide +kernel
theorem dX5_emboss_10 : decode cX5_emboss 10 = .ok (.invokevirtual 213, 3) := by decide +kernel
theorem dX5_emboss_13 : decode cX5_emboss 13 = .ok (.iconst 0, 1) := by decide +kernel
theorem dX5_emboss_14 : decode cX5_emboss 14 = .ok (.istore_n 3, 1) := by decide +kernel
theorem dX5_emboss_15 : decode cX5_emboss 15 = .ok (.iconst 0, 1) := by decide +kernel
theorem dX5_emboss_16 : decode cX5_emboss 16 = .ok (.istore 4, 2) := by decide +kernel
theorem dX5_emboss_18 : decode cX5_emboss 18 = .ok (.iconst (-1), 1) := by decide +kernel
theorem dX5_emboss_19 : decode cX5_emboss 19 = .ok (.istore 5, 2) := by decide +kernel
theorem dX5_emboss_21 : decode cX5_emboss 21 = .ok (.iconst 0, 1) := by decide +kernel
theorem dX5_emboss_22 : decode cX5_emboss 22 = .ok (.istore 6, 2) := by decide +kernel
theorem dX5_emboss_24 : decode cX5_emboss 24 = .ok (.iload 6, 2) := by decide +kernel
theorem dX5_emboss_26 : decode cX5_emboss 26 = .ok (.aload_n 2, 1) := by decide +kernel
theorem dX5_emboss_27 : decode cX5_emboss 27 = .ok (.invokevirtual 197, 3) := by decide +kernel
theorem dX5_emboss_30 : decode cX5_emboss 30 = .ok (.if_icmp .ge 53, 3) := by decide +kernel
theorem dX5_emboss_33 : decode cX5_emboss 33 = .ok (.aload_n 2, 1) := by decide +kernel
theorem dX5_emboss_34 : decode cX5_emboss 34 = .ok (.iload 6, 2) := by decide +kernel
theorem dX5_emboss_36 : decode cX5_emboss 36 = .ok (.invokevirtual 216, 3) := by decide +kernel
theorem dX5_emboss_39 : decode cX5_emboss 39 = .ok (.ifCond .eq 38, 3) := by decide +kernel
theorem dX5_emboss_42 : decode cX5_emboss 42 = .ok (.aload_n 0, 1) := by decide +kernel
theorem dX5_emboss_43 : decode cX5_emboss 43 = .ok (.aload_n 2, 1) := by decide +kernel
theorem dX5_emboss_44 : decode cX5_emboss 44 = .ok (.iload 6, 2) := by decide +kernel
theorem dX5_emboss_46 : decode cX5_emboss 46 = .ok (.invokevirtual 219, 3) := by decide +kernel
theorem dX5_emboss_49 : decode cX5_emboss 49 = .ok (.iinc 4 1, 3) := by decide +kernel
theorem dX5_emboss_52 : decode cX5_emboss 52 = .ok (.iload 6, 2) := by decide +kernel
theorem dX5_emboss_54 : decode cX5_emboss 54 = .ok (.iconst 4, 1) := by decide +kernel
theorem dX5_emboss_55 : decode cX5_emboss 55 = .ok (.idiv, 1) := by decide +kernel
theorem dX5_emboss_56 : decode cX5_emboss 56 = .ok (.istore 7, 2) := by decide +kernel
theorem dX5_emboss_58 : decode cX5_emboss 58 = .ok (.iload_n 3, 1) := by decide +kernel
theorem dX5_emboss_59 : decode cX5_emboss 59 = .ok (.iload 7, 2) := by decide +kernel
theorem dX5_emboss_61 : decode cX5_emboss 61 = .ok (.iload 5, 2) := by decide +kernel
theorem dX5_emboss_63 : decode cX5_emboss 63 = .ok (.if_icmp .ne 7, 3) := by decide +kernel
theorem dX5_emboss_66 : decode cX5_emboss 66 = .ok (.iconst 0, 1) := by decide +kernel
theorem dX5_emboss_67 : decode cX5_emboss 67 = .ok (.goto 4, 3) := by decide +kernel
theorem dX5_emboss_70 : decode cX5_emboss 70 = .ok (.iconst 1, 1) := by decide +kernel
theorem dX5_emboss_71 : decode cX5_emboss 71 = .ok (.iadd, 1) := by decide +kernel
theorem dX5_emboss_72 : decode cX5_emboss 72 = .ok (.istore_n 3, 1) := by decide +kernel
theorem dX5_emboss_73 : decode cX5_emboss 73 = .ok (.iload 7, 2) := by decide +kernel
theorem dX5_emboss_75 : decode cX5_emboss 75 = .ok (.istore 5, 2) := by decide +kernel
theorem dX5_emboss_77 : decode cX5_emboss 77 = .ok (.iinc 6 1, 3) := by decide +kernel
theorem dX5_emboss_80 : decode cX5_emboss 80 = .ok (.goto (-56), 3) := by decide +kernel
theorem dX5_emboss_83 : decode cX5_emboss 83 = .ok (.aload_n 0, 1) := by decide +kernel
theorem dX5_emboss_84 : decode cX5_emboss 84 = .ok (.getfield 28, 3) := by decide +kernel
theorem dX5_emboss_87 : decode cX5_emboss 87 = .ok (.invokevirtual 223, 3) := by decide +kernel
theorem dX5_emboss_90 : decode cX5_emboss 90 = .ok (.ifCond .ne 13, 3) := by decide +kernel
theorem dX5_emboss_93 : decode cX5_emboss 93 = .ok (.new 65, 3) := by decide +kernel
theorem dX5_emboss_96 : decode cX5_emboss 96 = .ok (.dup, 1) := by decide +kernel
theorem dX5_emboss_97 : decode cX5_emboss 97 = .ok (.ldc 226, 2) := by decide +kernel
theorem dX5_emboss_99 : decode cX5_emboss 99 = .ok (.invokespecial 69, 3) := by decide +kernel
theorem dX5_emboss_102 : decode cX5_emboss 102 = .ok (.athrow, 1) := by decide +kernel
theorem dX5_emboss_103 : decode cX5_emboss 103 = .ok (.aload_n 0, 1) := by decide +kernel
theorem dX5_emboss_104 : decode cX5_emboss 104 = .ok (.getfield 28, 3) := by decide +kernel
theorem dX5_emboss_107 : decode cX5_emboss 107 = .ok (.invokevirtual 228, 3) := by decide +kernel
theorem dX5_emboss_110 : decode cX5_emboss 110 = .ok (.aload_n 2, 1) := by decide +kernel
theorem dX5_emboss_111 : decode cX5_emboss 111 = .ok (.invokevirtual 231, 3) := by decide +kernel
theorem dX5_emboss_114 : decode cX5_emboss 114 = .ok (.bipush 100, 2) := by decide +kernel
theorem dX5_emboss_116 : decode cX5_emboss 116 = .ok (.iload_n 3, 1) := by decide +kernel
theorem dX5_emboss_117 : decode cX5_emboss 117 = .ok (.imul, 1) := by decide +kernel
theorem dX5_emboss_118 : decode cX5_emboss 118 = .ok (.iload 4, 2) := by decide +kernel
theorem dX5_emboss_120 : decode cX5_emboss 120 = .ok (.iadd, 1) := by decide +kernel
theorem dX5_emboss_121 : decode cX5_emboss 121 = .ok (.ireturn, 1) := by decide +kernel
theorem dX5_changed_0 : decode cX5_changed 0 = .ok (.aload_n 0, 1) := by decide +kernel
theorem dX5_changed_1 : decode cX5_changed 1 = .ok (.iload_n 1, 1) := by decide +kernel
theorem dX5_changed_2 : decode cX5_changed 2 = .ok (.invokevirtual 181, 3) := by decide +kernel
theorem dX5_changed_5 : decode cX5_changed 5 = .ok (.invokevirtual 234, 3) := by decide +kernel
theorem dX5_changed_8 : decode cX5_changed 8 = .ok (.ireturn, 1) := by decide +kernel
theorem dX5_setBearing_0 : decode cX5_setBearing 0 = .ok (.iload_n 1, 1) := by decide +kernel
theorem dX5_setBearing_1 : decode cX5_setBearing 1 = .ok (.bipush 10, 2) := by decide +kernel
theorem dX5_setBearing_3 : decode cX5_setBearing 3 = .ok (.if_icmp .lt 10, 3) := by decide +kernel
theorem dX5_setBearing_6 : decode cX5_setBearing 6 = .ok (.iload_n 1, 1) := by decide +kernel
theorem dX5_setBearing_7 : decode cX5_setBearing 7 = .ok (.sipush 9999, 3) := by decide +kernel
theorem dX5_setBearing_10 : decode cX5_setBearing 10 = .ok (.if_icmp .le 13, 3) := by decide +kernel
theorem dX5_setBearing_13 : decode cX5_setBearing 13 = .ok (.new 54, 3) := by decide +kernel
theorem dX5_setBearing_16 : decode cX5_setBearing 16 = .ok (.dup, 1) := by decide +kernel
theorem dX5_setBearing_17 : decode cX5_setBearing 17 = .ok (.ldc 237, 2) := by decide +kernel
theorem dX5_setBearing_19 : decode cX5_setBearing 19 = .ok (.invokespecial 58, 3) := by decide +kernel
theorem dX5_setBearing_22 : decode cX5_setBearing 22 = .ok (.athrow, 1) := by decide +kernel
theorem dX5_setBearing_23 : decode cX5_setBearing 23 = .ok (.aload_n 0, 1) := by decide +kernel
theorem dX5_setBearing_24 : decode cX5_setBearing 24 = .ok (.getfield 28, 3) := by decide +kernel
theorem dX5_setBearing_27 : decode cX5_setBearing 27 = .ok (.iload_n 1, 1) := by decide +kernel
theorem dX5_setBearing_28 : decode cX5_setBearing 28 = .ok (.invokevirtual 239, 3) := by decide +kernel
theorem dX5_setBearing_31 : decode cX5_setBearing 31 = .ok (.ireturn, 1) := by decide +kernel
theorem dX5_replace_0 : decode cX5_replace 0 = .ok (.iload_n 1, 1) := by decide +kernel
theorem dX5_replace_1 : decode cX5_replace 1 = .ok (.iconst 1, 1) := by decide +kernel
theorem dX5_replace_2 : decode cX5_replace 2 = .ok (.if_icmp .lt 9, 3) := by decide +kernel
theorem dX5_replace_5 : decode cX5_replace 5 = .ok (.iload_n 1, 1) := by decide +kernel
theorem dX5_replace_6 : decode cX5_replace 6 = .ok (.bipush 6, 2) := by decide +kernel
theorem dX5_replace_8 : decode cX5_replace 8 = .ok (.if_icmp .le 13, 3) := by decide +kernel
theorem dX5_replace_11 : decode cX5_replace 11 = .ok (.new 123, 3) := by decide +kernel
theorem dX5_replace_14 : decode cX5_replace 14 = .ok (.dup, 1) := by decide +kernel
theorem dX5_replace_15 : decode cX5_replace 15 = .ok (.ldc 242, 2) := by decide +kernel
theorem dX5_replace_17 : decode cX5_replace 17 = .ok (.invokespecial 127, 3) := by decide +kernel
theorem dX5_replace_20 : decode cX5_replace 20 = .ok (.athrow, 1) := by decide +kernel
theorem dX5_replace_21 : decode cX5_replace 21 = .ok (.aload_n 0, 1) := by decide +kernel
theorem dX5_replace_22 : decode cX5_replace 22 = .ok (.getfield 28, 3) := by decide +kernel
theorem dX5_replace_25 : decode cX5_replace 25 = .ok (.iload_n 1, 1) := by decide +kernel
theorem dX5_replace_26 : decode cX5_replace 26 = .ok (.invokevirtual 244, 3) := by decide +kernel
theorem dX5_replace_29 : decode cX5_replace 29 = .ok (.ireturn, 1) := by decide +kernel
theorem dX5_strikes_0 : decode cX5_strikes 0 = .ok (.iload_n 1, 1) := by decide +kernel
theorem dX5_strikes_1 : decode cX5_strikes 1 = .ok (.iconst 1, 1) := by decide +kernel
theorem dX5_strikes_2 : decode cX5_strikes 2 = .ok (.if_icmp .lt 9, 3) := by decide +kernel
theorem dX5_strikes_5 : decode cX5_strikes 5 = .ok (.iload_n 1, 1) := by decide +kernel
theorem dX5_strikes_6 : decode cX5_strikes 6 = .ok (.bipush 6, 2) := by decide +kernel
theorem dX5_strikes_8 : decode cX5_strikes 8 = .ok (.if_icmp .le 13, 3) := by decide +kernel
theorem dX5_strikes_11 : decode cX5_strikes 11 = .ok (.new 123, 3) := by decide +kernel
theorem dX5_strikes_14 : decode cX5_strikes 14 = .ok (.dup, 1) := by decide +kernel
theorem dX5_strikes_15 : decode cX5_strikes 15 = .ok (.ldc 242, 2) := by decide +kernel
theorem dX5_strikes_17 : decode cX5_strikes 17 = .ok (.invokespecial 127, 3) := by decide +kernel
theorem dX5_strikes_20 : decode cX5_strikes 20 = .ok (.athrow, 1) := by decide +kernel
theorem dX5_strikes_21 : decode cX5_strikes 21 = .ok (.aload_n 0, 1) := by decide +kernel
theorem dX5_strikes_22 : decode cX5_strikes 22 = .ok (.getfield 28, 3) := by decide +kernel
theorem dX5_strikes_25 : decode cX5_strikes 25 = .ok (.iload_n 1, 1) := by decide +kernel
theorem dX5_strikes_26 : decode cX5_strikes 26 = .ok (.invokevirtual 247, 3) := by decide +kernel
theorem dX5_strikes_29 : decode cX5_strikes 29 = .ok (.ireturn, 1) := by decide +kernel
theorem dX5_mark_0 : decode cX5_mark 0 = .ok (.iload_n 1, 1) := by decide +kernel
theorem dX5_mark_1 : decode cX5_mark 1 = .ok (.invokestatic 250, 3) := by decide +kernel
theorem dX5_mark_4 : decode cX5_mark 4 = .ok (.ifCond .ne 13, 3) := by decide +kernel
theorem dX5_mark_7 : decode cX5_mark 7 = .ok (.new 123, 3) := by decide +kernel
theorem dX5_mark_10 : decode cX5_mark 10 = .ok (.dup, 1) := by decide +kernel
theorem dX5_mark_11 : decode cX5_mark 11 = .ok (.ldc 253, 2) := by decide +kernel
theorem dX5_mark_13 : decode cX5_mark 13 = .ok (.invokespecial 127, 3) := by decide +kernel
theorem dX5_mark_16 : decode cX5_mark 16 = .ok (.athrow, 1) := by decide +kernel
theorem dX5_mark_17 : decode cX5_mark 17 = .ok (.aload_n 0, 1) := by decide +kernel
theorem dX5_mark_18 : decode cX5_mark 18 = .ok (.iload_n 2, 1) := by decide +kernel
theorem dX5_mark_19 : decode cX5_mark 19 = .ok (.iload_n 3, 1) := by decide +kernel
theorem dX5_mark_20 : decode cX5_mark 20 = .ok (.invokevirtual 185, 3) := by decide +kernel
theorem dX5_mark_23 : decode cX5_mark 23 = .ok (.astore 5, 2) := by decide +kernel
theorem dX5_mark_25 : decode cX5_mark 25 = .ok (.iload 4, 2) := by decide +kernel
theorem dX5_mark_27 : decode cX5_mark 27 = .ok (.ifCond .eq 8, 3) := by decide +kernel
theorem dX5_mark_30 : decode cX5_mark 30 = .ok (.bipush 114, 2) := by decide +kernel
theorem dX5_mark_32 : decode cX5_mark 32 = .ok (.goto 5, 3) := by decide +kernel
theorem dX5_mark_35 : decode cX5_mark 35 = .ok (.bipush 119, 2) := by decide +kernel
theorem dX5_mark_37 : decode cX5_mark 37 = .ok (.istore 6, 2) := by decide +kernel
theorem dX5_mark_39 : decode cX5_mark 39 = .ok (.aload 5, 2) := by decide +kernel
theorem dX5_mark_41 : decode cX5_mark 41 = .ok (.iload_n 1, 1) := by decide +kernel
theorem dX5_mark_42 : decode cX5_mark 42 = .ok (.iload_n 3, 1) := by decide +kernel
theorem dX5_mark_43 : decode cX5_mark 43 = .ok (.iload 6, 2) := by decide +kernel
theorem dX5_mark_45 : decode cX5_mark 45 = .ok (.invokevirtual 255, 3) := by decide +kernel
theorem dX5_mark_48 : decode cX5_mark 48 = .ok (.aload 5, 2) := by decide +kernel
theorem dX5_mark_50 : decode cX5_mark 50 = .ok (.iconst 1, 1) := by decide +kernel
theorem dX5_mark_51 : decode cX5_mark 51 = .ok (.iload_n 1, 1) := by decide +kernel
theorem dX5_mark_52 : decode cX5_mark 52 = .ok (.isub, 1) := by decide +kernel
theorem dX5_mark_53 : decode cX5_mark 53 = .ok (.iload_n 3, 1) := by decide +kernel
theorem dX5_mark_54 : decode cX5_mark 54 = .ok (.invokevirtual 259, 3) := by decide +kernel
theorem dX5_mark_57 : decode cX5_mark 57 = .ok (.iload 6, 2) := by decide +kernel
theorem dX5_mark_59 : decode cX5_mark 59 = .ok (.if_icmp .ne 7, 3) := by decide +kernel
theorem dX5_mark_62 : decode cX5_mark 62 = .ok (.iconst 1, 1) := by decide +kernel
theorem dX5_mark_63 : decode cX5_mark 63 = .ok (.goto 4, 3) := by decide +kernel
theorem dX5_mark_66 : decode cX5_mark 66 = .ok (.iconst 0, 1) := by decide +kernel
theorem dX5_mark_67 : decode cX5_mark 67 = .ok (.ireturn, 1) := by decide +kernel
theorem dX5_markOf_0 : decode cX5_markOf 0 = .ok (.iload_n 1, 1) := by decide +kernel
theorem dX5_markOf_1 : decode cX5_markOf 1 = .ok (.invokestatic 250, 3) := by decide +kernel
theorem dX5_markOf_4 : decode cX5_markOf 4 = .ok (.ifCond .ne 13, 3) := by decide +kernel
theorem dX5_markOf_7 : decode cX5_markOf 7 = .ok (.new 123, 3) := by decide +kernel
theorem dX5_markOf_10 : decode cX5_markOf 10 = .ok (.dup, 1) := by decide +kernel
theorem dX5_markOf_11 : decode cX5_markOf 11 = .ok (.ldc 253, 2) := by decide +kernel
theorem dX5_markOf_13 : decode cX5_markOf 13 = .ok (.invokespecial 127, 3) := by decide +kernel
theorem dX5_markOf_16 : decode cX5_markOf 16 = .ok (.athrow, 1) := by decide +kernel
theorem dX5_markOf_17 : decode cX5_markOf 17 = .ok (.aload_n 0, 1) := by decide +kernel
theorem dX5_markOf_18 : decode cX5_markOf 18 = .ok (.iload_n 2, 1) := by decide +kernel
theorem dX5_markOf_19 : decode cX5_markOf 19 = .ok (.iload_n 3, 1) := by decide +kernel
theorem dX5_markOf_20 : decode cX5_markOf 20 = .ok (.invokevirtual 185, 3) := by decide +kernel
theorem dX5_markOf_23 : decode cX5_markOf 23 = .ok (.iload_n 1, 1) := by decide +kernel
theorem dX5_markOf_24 : decode cX5_markOf 24 = .ok (.iload_n 3, 1) := by decide +kernel
theorem dX5_markOf_25 : decode cX5_markOf 25 = .ok (.invokevirtual 259, 3) := by decide +kernel
theorem dX5_markOf_28 : decode cX5_markOf 28 = .ok (.ireturn, 1) := by decide +kernel
theorem dX5_checksum_0 : decode cX5_checksum 0 = .ok (.lconst 0, 1) := by decide +kernel
theorem dX5_checksum_1 : decode cX5_checksum 1 = .ok (.lstore_n 1, 1) := by decide +kernel
theorem dX5_checksum_2 : decode cX5_checksum 2 = .ok (.aload_n 0, 1) := by decide +kernel
theorem dX5_checksum_3 : decode cX5_checksum 3 = .ok (.getfield 34, 3) := by decide +kernel
theorem dX5_checksum_6 : decode cX5_checksum 6 = .ok (.astore_n 3, 1) := by decide +kernel
theorem dX5_checksum_7 : decode cX5_checksum 7 = .ok (.aload_n 3, 1) := by decide +kernel
theorem dX5_checksum_8 : decode cX5_checksum 8 = .ok (.arraylength, 1) := by decide +kernel
theorem dX5_checksum_9 : decode cX5_checksum 9 = .ok (.istore 4, 2) := by decide +kernel
theorem dX5_checksum_11 : decode cX5_checksum 11 = .ok (.iconst 0, 1) := by decide +kernel
theorem dX5_checksum_12 : decode cX5_checksum 12 = .ok (.istore 5, 2) := by decide +kernel
theorem dX5_checksum_14 : decode cX5_checksum 14 = .ok (.iload 5, 2) := by decide +kernel
theorem dX5_checksum_16 : decode cX5_checksum 16 = .ok (.iload 4, 2) := by decide +kernel
theorem dX5_checksum_18 : decode cX5_checksum 18 = .ok (.if_icmp .ge 27, 3) := by decide +kernel
theorem dX5_checksum_21 : decode cX5_checksum 21 = .ok (.aload_n 3, 1) := by decide +kernel
theorem dX5_checksum_22 : decode cX5_checksum 22 = .ok (.iload 5, 2) := by decide +kernel
theorem dX5_checksum_24 : decode cX5_checksum 24 = .ok (.aaload, 1) := by decide +kernel
theorem dX5_checksum_25 : decode cX5_checksum 25 = .ok (.astore 6, 2) := by decide +kernel
theorem dX5_checksum_27 : decode cX5_checksum 27 = .ok (.aload 6, 2) := by decide +kernel
theorem dX5_checksum_29 : decode cX5_checksum 29 = .ok (.ifnull 10, 3) := by decide +kernel
theorem dX5_checksum_32 : decode cX5_checksum 32 = .ok (.aload 6, 2) := by decide +kernel
theorem dX5_checksum_34 : decode cX5_checksum 34 = .ok (.lload_n 1, 1) := by decide +kernel
theorem dX5_checksum_35 : decode cX5_checksum 35 = .ok (.invokevirtual 263, 3) := by decide +kernel
theorem dX5_checksum_38 : decode cX5_checksum 38 = .ok (.lstore_n 1, 1) := by decide +kernel
theorem dX5_checksum_39 : decode cX5_checksum 39 = .ok (.iinc 5 1, 3) := by decide +kernel
theorem dX5_checksum_42 : decode cX5_checksum 42 = .ok (.goto (-28), 3) := by decide +kernel
theorem dX5_checksum_45 : decode cX5_checksum 45 = .ok (.lload_n 1, 1) := by decide +kernel
theorem dX5_checksum_46 : decode cX5_checksum 46 = .ok (.lreturn, 1) := by decide +kernel
theorem dX5_provedShare_0 : decode cX5_provedShare 0 = .ok (.iconst 0, 1) := by decide +kernel
theorem dX5_provedShare_1 : decode cX5_provedShare 1 = .ok (.istore_n 1, 1) := by decide +kernel
theorem dX5_provedShare_2 : decode cX5_provedShare 2 = .ok (.iconst 0, 1) := by decide +kernel
theorem dX5_provedShare_3 : decode cX5_provedShare 3 = .ok (.istore_n 2, 1) := by decide +kernel
theorem dX5_provedShare_4 : decode cX5_provedShare 4 = .ok (.aload_n 0, 1) := by decide +kernel
theorem dX5_provedShare_5 : decode cX5_provedShare 5 = .ok (.getfield 34, 3) := by decide +kernel
theorem dX5_provedShare_8 : decode cX5_provedShare 8 = .ok (.astore_n 3, 1) := by decide +kernel
theorem dX5_provedShare_9 : decode cX5_provedShare 9 = .ok (.aload_n 3, 1) := by decide +kernel
theorem dX5_provedShare_10 : decode cX5_provedShare 10 = .ok (.arraylength, 1) := by decide +kernel
theorem dX5_provedShare_11 : decode cX5_provedShare 11 = .ok (.istore 4, 2) := by decide +kernel
theorem dX5_provedShare_13 : decode cX5_provedShare 13 = .ok (.iconst 0, 1) := by decide +kernel
theorem dX5_provedShare_14 : decode cX5_provedShare 14 = .ok (.istore 5, 2) := by decide +kernel
theorem dX5_provedShare_16 : decode cX5_provedShare 16 = .ok (.iload 5, 2) := by decide +kernel
theorem dX5_provedShare_18 : decode cX5_provedShare 18 = .ok (.iload 4, 2) := by decide +kernel
theorem dX5_provedShare_20 : decode cX5_provedShare 20 = .ok (.if_icmp .ge 36, 3) := by decide +kernel
theorem dX5_provedShare_23 : decode cX5_provedShare 23 = .ok (.aload_n 3, 1) := by decide +kernel
theorem dX5_provedShare_24 : decode cX5_provedShare 24 = .ok (.iload 5, 2) := by decide +kernel
theorem dX5_provedShare_26 : decode cX5_provedShare 26 = .ok (.aaload, 1) := by decide +kernel
theorem dX5_provedShare_27 : decode cX5_provedShare 27 = .ok (.astore 6, 2) := by decide +kernel
theorem dX5_provedShare_29 : decode cX5_provedShare 29 = .ok (.aload 6, 2) := by decide +kernel
theorem dX5_provedShare_31 : decode cX5_provedShare 31 = .ok (.ifnull 19, 3) := by decide +kernel
theorem dX5_provedShare_34 : decode cX5_provedShare 34 = .ok (.iload_n 1, 1) := by decide +kernel
theorem dX5_provedShare_35 : decode cX5_provedShare 35 = .ok (.aload 6, 2) := by decide +kernel
theorem dX5_provedShare_37 : decode cX5_provedShare 37 = .ok (.invokevirtual 176, 3) := by decide +kernel
theorem dX5_provedShare_40 : decode cX5_provedShare 40 = .ok (.iadd, 1) := by decide +kernel
theorem dX5_provedShare_41 : decode cX5_provedShare 41 = .ok (.istore_n 1, 1) := by decide +kernel
theorem dX5_provedShare_42 : decode cX5_provedShare 42 = .ok (.iload_n 2, 1) := by decide +kernel
theorem dX5_provedShare_43 : decode cX5_provedShare 43 = .ok (.aload 6, 2) := by decide +kernel
theorem dX5_provedShare_45 : decode cX5_provedShare 45 = .ok (.invokevirtual 267, 3) := by decide +kernel
theorem dX5_provedShare_48 : decode cX5_provedShare 48 = .ok (.iadd, 1) := by decide +kernel
theorem dX5_provedShare_49 : decode cX5_provedShare 49 = .ok (.istore_n 2, 1) := by decide +kernel
theorem dX5_provedShare_50 : decode cX5_provedShare 50 = .ok (.iinc 5 1, 3) := by decide +kernel
theorem dX5_provedShare_53 : decode cX5_provedShare 53 = .ok (.goto (-37), 3) := by decide +kernel
theorem dX5_provedShare_56 : decode cX5_provedShare 56 = .ok (.iload_n 1, 1) := by decide +kernel
theorem dX5_provedShare_57 : decode cX5_provedShare 57 = .ok (.ifCond .ne 14, 3) := by decide +kernel
theorem dX5_provedShare_60 : decode cX5_provedShare 60 = .ok (.new 270, 3) := by decide +kernel
theorem dX5_provedShare_63 : decode cX5_provedShare 63 = .ok (.dup, 1) := by decide +kernel
theorem dX5_provedShare_64 : decode cX5_provedShare 64 = .ok (.ldc_w 272, 3) := by decide +kernel
theorem dX5_provedShare_67 : decode cX5_provedShare 67 = .ok (.invokespecial 274, 3) := by decide +kernel
theorem dX5_provedShare_70 : decode cX5_provedShare 70 = .ok (.athrow, 1) := by decide +kernel
theorem dX5_provedShare_71 : decode cX5_provedShare 71 = .ok (.iload_n 2, 1) := by decide +kernel
theorem dX5_provedShare_72 : decode cX5_provedShare 72 = .ok (.i2f, 1) := by decide +kernel
theorem dX5_provedShare_73 : decode cX5_provedShare 73 = .ok (.iload_n 1, 1) := by decide +kernel
theorem dX5_provedShare_74 : decode cX5_provedShare 74 = .ok (.i2f, 1) := by decide +kernel
theorem dX5_provedShare_75 : decode cX5_provedShare 75 = .ok (.fdiv, 1) := by decide +kernel
theorem dX5_provedShare_76 : decode cX5_provedShare 76 = .ok (.freturn, 1) := by decide +kernel
theorem dX5_meanStrikes_0 : decode cX5_meanStrikes 0 = .ok (.aload_n 0, 1) := by decide +kernel
theorem dX5_meanStrikes_1 : decode cX5_meanStrikes 1 = .ok (.getfield 28, 3) := by decide +kernel
theorem dX5_meanStrikes_4 : decode cX5_meanStrikes 4 = .ok (.invokevirtual 275, 3) := by decide +kernel
theorem dX5_meanStrikes_7 : decode cX5_meanStrikes 7 = .ok (.i2d, 1) := by decide +kernel
theorem dX5_meanStrikes_8 : decode cX5_meanStrikes 8 = .ok (.ldc2_w 278, 3) := by decide +kernel
theorem dX5_meanStrikes_11 : decode cX5_meanStrikes 11 = .ok (.ddiv, 1) := by decide +kernel
theorem dX5_meanStrikes_12 : decode cX5_meanStrikes 12 = .ok (.dreturn, 1) := by decide +kernel
theorem dX5_isSound_0 : decode cX5_isSound 0 = .ok (.aload_n 0, 1) := by decide +kernel
theorem dX5_isSound_1 : decode cX5_isSound 1 = .ok (.getfield 34, 3) := by decide +kernel
theorem dX5_isSound_4 : decode cX5_isSound 4 = .ok (.astore_n 1, 1) := by decide +kernel
theorem dX5_isSound_5 : decode cX5_isSound 5 = .ok (.aload_n 1, 1) := by decide +kernel
theorem dX5_isSound_6 : decode cX5_isSound 6 = .ok (.arraylength, 1) := by decide +kernel
theorem dX5_isSound_7 : decode cX5_isSound 7 = .ok (.istore_n 2, 1) := by decide +kernel
theorem dX5_isSound_8 : decode cX5_isSound 8 = .ok (.iconst 0, 1) := by decide +kernel
theorem dX5_isSound_9 : decode cX5_isSound 9 = .ok (.istore_n 3, 1) := by decide +kernel
theorem dX5_isSound_10 : decode cX5_isSound 10 = .ok (.iload_n 3, 1) := by decide +kernel
theorem dX5_isSound_11 : decode cX5_isSound 11 = .ok (.iload_n 2, 1) := by decide +kernel
theorem dX5_isSound_12 : decode cX5_isSound 12 = .ok (.if_icmp .ge 33, 3) := by decide +kernel
theorem dX5_isSound_15 : decode cX5_isSound 15 = .ok (.aload_n 1, 1) := by decide +kernel
theorem dX5_isSound_16 : decode cX5_isSound 16 = .ok (.iload_n 3, 1) := by decide +kernel
theorem dX5_isSound_17 : decode cX5_isSound 17 = .ok (.aaload, 1) := by decide +kernel
theorem dX5_isSound_18 : decode cX5_isSound 18 = .ok (.astore 4, 2) := by decide +kernel
theorem dX5_isSound_20 : decode cX5_isSound 20 = .ok (.aload 4, 2) := by decide +kernel
theorem dX5_isSound_22 : decode cX5_isSound 22 = .ok (.ifnull 17, 3) := by decide +kernel
theorem dX5_isSound_25 : decode cX5_isSound 25 = .ok (.aload 4, 2) := by decide +kernel
theorem dX5_isSound_27 : decode cX5_isSound 27 = .ok (.aload_n 0, 1) := by decide +kernel
theorem dX5_isSound_28 : decode cX5_isSound 28 = .ok (.getfield 51, 3) := by decide +kernel
theorem dX5_isSound_31 : decode cX5_isSound 31 = .ok (.invokevirtual 280, 3) := by decide +kernel
theorem dX5_isSound_34 : decode cX5_isSound 34 = .ok (.ifCond .ne 5, 3) := by decide +kernel
theorem dX5_isSound_37 : decode cX5_isSound 37 = .ok (.iconst 0, 1) := by decide +kernel
theorem dX5_isSound_38 : decode cX5_isSound 38 = .ok (.ireturn, 1) := by decide +kernel
theorem dX5_isSound_39 : decode cX5_isSound 39 = .ok (.iinc 3 1, 3) := by decide +kernel
theorem dX5_isSound_42 : decode cX5_isSound 42 = .ok (.goto (-32), 3) := by decide +kernel
theorem dX5_isSound_45 : decode cX5_isSound 45 = .ok (.aload_n 0, 1) := by decide +kernel
theorem dX5_isSound_46 : decode cX5_isSound 46 = .ok (.getfield 21, 3) := by decide +kernel
theorem dX5_isSound_49 : decode cX5_isSound 49 = .ok (.invokevirtual 283, 3) := by decide +kernel
theorem dX5_isSound_52 : decode cX5_isSound 52 = .ok (.ireturn, 1) := by decide +kernel
theorem dX5_isGrade_0 : decode cX5_isGrade 0 = .ok (.iload_n 0, 1) := by decide +kernel
theorem dX5_isGrade_1 : decode cX5_isGrade 1 = .ok (.iconst 1, 1) := by decide +kernel
theorem dX5_isGrade_2 : decode cX5_isGrade 2 = .ok (.if_icmp .lt 12, 3) := by decide +kernel
theorem dX5_isGrade_5 : decode cX5_isGrade 5 = .ok (.iload_n 0, 1) := by decide +kernel
theorem dX5_isGrade_6 : decode cX5_isGrade 6 = .ok (.iconst 2, 1) := by decide +kernel
theorem dX5_isGrade_7 : decode cX5_isGrade 7 = .ok (.if_icmp .gt 7, 3) := by decide +kernel
theorem dX5_isGrade_10 : decode cX5_isGrade 10 = .ok (.iconst 1, 1) := by decide +kernel
theorem dX5_isGrade_11 : decode cX5_isGrade 11 = .ok (.goto 4, 3) := by decide +kernel
theorem dX5_isGrade_14 : decode cX5_isGrade 14 = .ok (.iconst 0, 1) := by decide +kernel
theorem dX5_isGrade_15 : decode cX5_isGrade 15 = .ok (.ireturn, 1) := by decide +kernel
theorem dX5_isRule_0 : decode cX5_isRule 0 = .ok (.iload_n 0, 1) := by decide +kernel
theorem dX5_isRule_1 : decode cX5_isRule 1 = .ok (.invokestatic 159, 3) := by decide +kernel
theorem dX5_isRule_4 : decode cX5_isRule 4 = .ok (.ifCond .eq 28, 3) := by decide +kernel
theorem dX5_isRule_7 : decode cX5_isRule 7 = .ok (.iload_n 1, 1) := by decide +kernel
theorem dX5_isRule_8 : decode cX5_isRule 8 = .ok (.iconst 1, 1) := by decide +kernel
theorem dX5_isRule_9 : decode cX5_isRule 9 = .ok (.if_icmp .lt 23, 3) := by decide +kernel
theorem dX5_isRule_12 : decode cX5_isRule 12 = .ok (.iload_n 1, 1) := by decide +kernel
theorem dX5_isRule_13 : decode cX5_isRule 13 = .ok (.bipush 63, 2) := by decide +kernel
theorem dX5_isRule_15 : decode cX5_isRule 15 = .ok (.if_icmp .gt 17, 3) := by decide +kernel
theorem dX5_isRule_18 : decode cX5_isRule 18 = .ok (.iload_n 2, 1) := by decide +kernel
theorem dX5_isRule_19 : decode cX5_isRule 19 = .ok (.ifCond .lt 13, 3) := by decide +kernel
theorem dX5_isRule_22 : decode cX5_isRule 22 = .ok (.iload_n 2, 1) := by decide +kernel
theorem dX5_isRule_23 : decode cX5_isRule 23 = .ok (.bipush 63, 2) := by decide +kernel
theorem dX5_isRule_25 : decode cX5_isRule 25 = .ok (.if_icmp .gt 7, 3) := by decide +kernel
theorem dX5_isRule_28 : decode cX5_isRule 28 = .ok (.iconst 1, 1) := by decide +kernel
theorem dX5_isRule_29 : decode cX5_isRule 29 = .ok (.goto 4, 3) := by decide +kernel
theorem dX5_isRule_32 : decode cX5_isRule 32 = .ok (.iconst 0, 1) := by decide +kernel
theorem dX5_isRule_33 : decode cX5_isRule 33 = .ok (.ireturn, 1) := by decide +kernel
theorem dX5_isReader_0 : decode cX5_isReader 0 = .ok (.iload_n 0, 1) := by decide +kernel
theorem dX5_isReader_1 : decode cX5_isReader 1 = .ok (.ifCond .lt 12, 3) := by decide +kernel
theorem dX5_isReader_4 : decode cX5_isReader 4 = .ok (.iload_n 0, 1) := by decide +kernel
theorem dX5_isReader_5 : decode cX5_isReader 5 = .ok (.iconst 2, 1) := by decide +kernel
theorem dX5_isReader_6 : decode cX5_isReader 6 = .ok (.if_icmp .ge 7, 3) := by decide +kernel
theorem dX5_isReader_9 : decode cX5_isReader 9 = .ok (.iconst 1, 1) := by decide +kernel
theorem dX5_isReader_10 : decode cX5_isReader 10 = .ok (.goto 4, 3) := by decide +kernel
theorem dX5_isReader_13 : decode cX5_isReader 13 = .ok (.iconst 0, 1) := by decide +kernel
theorem dX5_isReader_14 : decode cX5_isReader 14 = .ok (.ireturn, 1) := by decide +kernel
theorem dX5_typedKey_0 : decode cX5_typedKey 0 = .ok (.aload_n 0, 1) := by decide +kernel
theorem dX5_typedKey_1 : decode cX5_typedKey 1 = .ok (.getfield 14, 3) := by decide +kernel
theorem dX5_typedKey_4 : decode cX5_typedKey 4 = .ok (.bipush 32, 2) := by decide +kernel
theorem dX5_typedKey_6 : decode cX5_typedKey 6 = .ok (.invokevirtual 138, 3) := by decide +kernel
theorem dX5_typedKey_9 : decode cX5_typedKey 9 = .ok (.iconst (-1), 1) := by decide +kernel
theorem dX5_typedKey_10 : decode cX5_typedKey 10 = .ok (.if_icmp .eq 5, 3) := by decide +kernel
theorem dX5_typedKey_13 : decode cX5_typedKey 13 = .ok (.iconst 0, 1) := by decide +kernel
theorem dX5_typedKey_14 : decode cX5_typedKey 14 = .ok (.ireturn, 1) := by decide +kernel
theorem dX5_typedKey_15 : decode cX5_typedKey 15 = .ok (.aload_n 0, 1) := by decide +kernel
theorem dX5_typedKey_16 : decode cX5_typedKey 16 = .ok (.getfield 14, 3) := by decide +kernel
theorem dX5_typedKey_19 : decode cX5_typedKey 19 = .ok (.iconst 0, 1) := by decide +kernel
theorem dX5_typedKey_20 : decode cX5_typedKey 20 = .ok (.aload_n 0, 1) := by decide +kernel
theorem dX5_typedKey_21 : decode cX5_typedKey 21 = .ok (.getfield 14, 3) := by decide +kernel
theorem dX5_typedKey_24 : decode cX5_typedKey 24 = .ok (.invokevirtual 73, 3) := by decide +kernel
theorem dX5_typedKey_27 : decode cX5_typedKey 27 = .ok (.invokestatic 286, 3) := by decide +kernel
theorem dX5_typedKey_30 : decode cX5_typedKey 30 = .ok (.ireturn, 1) := by decide +kernel
theorem dX5_textNumbered_0 : decode cX5_textNumbered 0 = .ok (.iload_n 1, 1) := by decide +kernel
theorem dX5_textNumbered_1 : decode cX5_textNumbered 1 = .ok (.ifCond .lt 12, 3) := by decide +kernel
theorem dX5_textNumbered_4 : decode cX5_textNumbered 4 = .ok (.iload_n 1, 1) := by decide +kernel
theorem dX5_textNumbered_5 : decode cX5_textNumbered 5 = .ok (.aload_n 0, 1) := by decide +kernel
theorem dX5_textNumbered_6 : decode cX5_textNumbered 6 = .ok (.getfield 34, 3) := by decide +kernel
theorem dX5_textNumbered_9 : decode cX5_textNumbered 9 = .ok (.arraylength, 1) := by decide +kernel
theorem dX5_textNumbered_10 : decode cX5_textNumbered 10 = .ok (.if_icmp .lt 7, 3) := by decide +kernel
theorem dX5_textNumbered_13 : decode cX5_textNumbered 13 = .ok (.aconst_null, 1) := by decide +kernel
theorem dX5_textNumbered_14 : decode cX5_textNumbered 14 = .ok (.goto 9, 3) := by decide +kernel
theorem dX5_textNumbered_17 : decode cX5_textNumbered 17 = .ok (.aload_n 0, 1) := by decide +kernel
theorem dX5_textNumbered_18 : decode cX5_textNumbered 18 = .ok (.getfield 34, 3) := by decide +kernel
theorem dX5_textNumbered_21 : decode cX5_textNumbered 21 = .ok (.iload_n 1, 1) := by decide +kernel
theorem dX5_textNumbered_22 : decode cX5_textNumbered 22 = .ok (.aaload, 1) := by decide +kernel
theorem dX5_textNumbered_23 : decode cX5_textNumbered 23 = .ok (.astore_n 2, 1) := by decide +kernel
theorem dX5_textNumbered_24 : decode cX5_textNumbered 24 = .ok (.aload_n 2, 1) := by decide +kernel
theorem dX5_textNumbered_25 : decode cX5_textNumbered 25 = .ok (.ifnonnull 14, 3) := by decide +kernel
theorem dX5_textNumbered_28 : decode cX5_textNumbered 28 = .ok (.new 123, 3) := by decide +kernel
theorem dX5_textNumbered_31 : decode cX5_textNumbered 31 = .ok (.dup, 1) := by decide +kernel
theorem dX5_textNumbered_32 : decode cX5_textNumbered 32 = .ok (.ldc_w 289, 3) := by decide +kernel
theorem dX5_textNumbered_35 : decode cX5_textNumbered 35 = .ok (.invokespecial 127, 3) := by decide +kernel
theorem dX5_textNumbered_38 : decode cX5_textNumbered 38 = .ok (.athrow, 1) := by decide +kernel
theorem dX5_textNumbered_39 : decode cX5_textNumbered 39 = .ok (.aload_n 2, 1) := by decide +kernel
theorem dX5_textNumbered_40 : decode cX5_textNumbered 40 = .ok (.areturn, 1) := by decide +kernel
theorem dX5_textWithWord_0 : decode cX5_textWithWord 0 = .ok (.aload_n 0, 1) := by decide +kernel
theorem dX5_textWithWord_1 : decode cX5_textWithWord 1 = .ok (.iload_n 1, 1) := by decide +kernel
theorem dX5_textWithWord_2 : decode cX5_textWithWord 2 = .ok (.invokevirtual 181, 3) := by decide +kernel
theorem dX5_textWithWord_5 : decode cX5_textWithWord 5 = .ok (.astore_n 3, 1) := by decide +kernel
theorem dX5_textWithWord_6 : decode cX5_textWithWord 6 = .ok (.iload_n 2, 1) := by decide +kernel
theorem dX5_textWithWord_7 : decode cX5_textWithWord 7 = .ok (.ifCond .lt 11, 3) := by decide +kernel
theorem dX5_textWithWord_10 : decode cX5_textWithWord 10 = .ok (.iload_n 2, 1) := by decide +kernel
theorem dX5_textWithWord_11 : decode cX5_textWithWord 11 = .ok (.aload_n 3, 1) := by decide +kernel
theorem dX5_textWithWord_12 : decode cX5_textWithWord 12 = .ok (.invokevirtual 176, 3) := by decide +kernel
theorem dX5_textWithWord_15 : decode cX5_textWithWord 15 = .ok (.if_icmp .lt 14, 3) := by decide +kernel
theorem dX5_textWithWord_18 : decode cX5_textWithWord 18 = .ok (.new 123, 3) := by decide +kernel
theorem dX5_textWithWord_21 : decode cX5_textWithWord 21 = .ok (.dup, 1) := by decide +kernel
theorem dX5_textWithWord_22 : decode cX5_textWithWord 22 = .ok (.ldc_w 291, 3) := by decide +kernel
theorem dX5_textWithWord_25 : decode cX5_textWithWord 25 = .ok (.invokespecial 127, 3) := by decide +kernel
theorem dX5_textWithWord_28 : decode cX5_textWithWord 28 = .ok (.athrow, 1) := by decide +kernel
theorem dX5_textWithWord_29 : decode cX5_textWithWord 29 = .ok (.aload_n 3, 1) := by decide +kernel
theorem dX5_textWithWord_30 : decode cX5_textWithWord 30 = .ok (.areturn, 1) := by decide +kernel
theorem dX5_translateTexts_0 : decode cX5_translateTexts 0 = .ok (.iconst 0, 1) := by decide +kernel
theorem dX5_translateTexts_1 : decode cX5_translateTexts 1 = .ok (.istore_n 1, 1) := by decide +kernel
theorem dX5_translateTexts_2 : decode cX5_translateTexts 2 = .ok (.aload_n 0, 1) := by decide +kernel
theorem dX5_translateTexts_3 : decode cX5_translateTexts 3 = .ok (.getfield 34, 3) := by decide +kernel
theorem dX5_translateTexts_6 : decode cX5_translateTexts 6 = .ok (.astore_n 2, 1) := by decide +kernel
theorem dX5_translateTexts_7 : decode cX5_translateTexts 7 = .ok (.aload_n 2, 1) := by decide +kernel
theorem dX5_translateTexts_8 : decode cX5_translateTexts 8 = .ok (.arraylength, 1) := by decide +kernel
theorem dX5_translateTexts_9 : decode cX5_translateTexts 9 = .ok (.istore_n 3, 1) := by decide +kernel
theorem dX5_translateTexts_10 : decode cX5_translateTexts 10 = .ok (.iconst 0, 1) := by decide +kernel
theorem dX5_translateTexts_11 : decode cX5_translateTexts 11 = .ok (.istore 4, 2) := by decide +kernel
theorem dX5_translateTexts_13 : decode cX5_translateTexts 13 = .ok (.iload 4, 2) := by decide +kernel
theorem dX5_translateTexts_15 : decode cX5_translateTexts 15 = .ok (.iload_n 3, 1) := by decide +kernel
theorem dX5_translateTexts_16 : decode cX5_translateTexts 16 = .ok (.if_icmp .ge 48, 3) := by decide +kernel
theorem dX5_translateTexts_19 : decode cX5_translateTexts 19 = .ok (.aload_n 2, 1) := by decide +kernel
theorem dX5_translateTexts_20 : decode cX5_translateTexts 20 = .ok (.iload 4, 2) := by decide +kernel
theorem dX5_translateTexts_22 : decode cX5_translateTexts 22 = .ok (.aaload, 1) := by decide +kernel
theorem dX5_translateTexts_23 : decode cX5_translateTexts 23 = .ok (.astore 5, 2) := by decide +kernel
theorem dX5_translateTexts_25 : decode cX5_translateTexts 25 = .ok (.aload 5, 2) := by decide +kernel
theorem dX5_translateTexts_27 : decode cX5_translateTexts 27 = .ok (.ifnull 31, 3) := by decide +kernel
theorem dX5_translateTexts_30 : decode cX5_translateTexts 30 = .ok (.aload 5, 2) := by decide +kernel
theorem dX5_translateTexts_32 : decode cX5_translateTexts 32 = .ok (.aload_n 0, 1) := by decide +kernel
theorem dX5_translateTexts_33 : decode cX5_translateTexts 33 = .ok (.getfield 21, 3) := by decide +kernel
theorem dX5_translateTexts_36 : decode cX5_translateTexts 36 = .ok (.aload_n 0, 1) := by decide +kernel
theorem dX5_translateTexts_37 : decode cX5_translateTexts 37 = .ok (.getfield 43, 3) := by decide +kernel
theorem dX5_translateTexts_40 : decode cX5_translateTexts 40 = .ok (.invokevirtual 169, 3) := by decide +kernel
theorem dX5_translateTexts_43 : decode cX5_translateTexts 43 = .ok (.ifCond .eq 15, 3) := by decide +kernel
theorem dX5_translateTexts_46 : decode cX5_translateTexts 46 = .ok (.aload 5, 2) := by decide +kernel
theorem dX5_translateTexts_48 : decode cX5_translateTexts 48 = .ok (.aload_n 0, 1) := by decide +kernel
theorem dX5_translateTexts_49 : decode cX5_translateTexts 49 = .ok (.getfield 51, 3) := by decide +kernel
theorem dX5_translateTexts_52 : decode cX5_translateTexts 52 = .ok (.invokevirtual 173, 3) := by decide +kernel
theorem dX5_translateTexts_55 : decode cX5_translateTexts 55 = .ok (.iinc 1 1, 3) := by decide +kernel
theorem dX5_translateTexts_58 : decode cX5_translateTexts 58 = .ok (.iinc 4 1, 3) := by decide +kernel
theorem dX5_translateTexts_61 : decode cX5_translateTexts 61 = .ok (.goto (-48), 3) := by decide +kernel
theorem dX5_translateTexts_64 : decode cX5_translateTexts 64 = .ok (.iload_n 1, 1) := by decide +kernel
theorem dX5_translateTexts_65 : decode cX5_translateTexts 65 = .ok (.ireturn, 1) := by decide +kernel
theorem dX5_planLine_0 : decode cX5_planLine 0 = .ok (.iconst 0, 1) := by decide +kernel
theorem dX5_planLine_1 : decode cX5_planLine 1 = .ok (.istore_n 3, 1) := by decide +kernel
theorem dX5_planLine_2 : decode cX5_planLine 2 = .ok (.iload_n 3, 1) := by decide +kernel
theorem dX5_planLine_3 : decode cX5_planLine 3 = .ok (.aload_n 1, 1) := by decide +kernel
theorem dX5_planLine_4 : decode cX5_planLine 4 = .ok (.iload_n 2, 1) := by decide +kernel
theorem dX5_planLine_5 : decode cX5_planLine 5 = .ok (.invokevirtual 202, 3) := by decide +kernel
theorem dX5_planLine_8 : decode cX5_planLine 8 = .ok (.if_icmp .ge 22, 3) := by decide +kernel
theorem dX5_planLine_11 : decode cX5_planLine 11 = .ok (.aload_n 0, 1) := by decide +kernel
theorem dX5_planLine_12 : decode cX5_planLine 12 = .ok (.getfield 28, 3) := by decide +kernel
theorem dX5_planLine_15 : decode cX5_planLine 15 = .ok (.aload_n 1, 1) := by decide +kernel
theorem dX5_planLine_16 : decode cX5_planLine 16 = .ok (.iload_n 2, 1) := by decide +kernel
theorem dX5_planLine_17 : decode cX5_planLine 17 = .ok (.iload_n 3, 1) := by decide +kernel
theorem dX5_planLine_18 : decode cX5_planLine 18 = .ok (.invokevirtual 207, 3) := by decide +kernel
theorem dX5_planLine_21 : decode cX5_planLine 21 = .ok (.invokevirtual 293, 3) := by decide +kernel
theorem dX5_planLine_24 : decode cX5_planLine 24 = .ok (.iinc 3 1, 3) := by decide +kernel
theorem dX5_planLine_27 : decode cX5_planLine 27 = .ok (.goto (-25), 3) := by decide +kernel
theorem dX5_planLine_30 : decode cX5_planLine 30 = .ok (.return_, 1) := by decide +kernel
theorem dJx00060_init_a7421_0 : decode cJx00060_init_a7421 0 = .ok (.aload_n 0, 1) := by decide +kernel
theorem dJx00060_init_a7421_1 : decode cJx00060_init_a7421 1 = .ok (.aload_n 1, 1) := by decide +kernel
theorem dJx00060_init_a7421_2 : decode cJx00060_init_a7421 2 = .ok (.invokespecial 7, 3) := by decide +kernel
theorem dJx00060_init_a7421_5 : decode cJx00060_init_a7421 5 = .ok (.return_, 1) := by decide +kernel
theorem dJ9_max_7cf53_0 : decode cJ9_max_7cf53 0 = .ok (.iload_n 0, 1) := by decide +kernel
theorem dJ9_max_7cf53_1 : decode cJ9_max_7cf53 1 = .ok (.iload_n 1, 1) := by decide +kernel
theorem dJ9_max_7cf53_2 : decode cJ9_max_7cf53 2 = .ok (.if_icmp .lt 7, 3) := by decide +kernel
theorem dJ9_max_7cf53_5 : decode cJ9_max_7cf53 5 = .ok (.iload_n 0, 1) := by decide +kernel
theorem dJ9_max_7cf53_6 : decode cJ9_max_7cf53 6 = .ok (.goto 4, 3) := by decide +kernel
theorem dJ9_max_7cf53_9 : decode cJ9_max_7cf53 9 = .ok (.iload_n 1, 1) := by decide +kernel
theorem dJ9_max_7cf53_10 : decode cJ9_max_7cf53 10 = .ok (.ireturn, 1) := by decide +kernel
theorem dJ9_min_7cf53_0 : decode cJ9_min_7cf53 0 = .ok (.iload_n 0, 1) := by decide +kernel
theorem dJ9_min_7cf53_1 : decode cJ9_min_7cf53 1 = .ok (.iload_n 1, 1) := by decide +kernel
theorem dJ9_min_7cf53_2 : decode cJ9_min_7cf53 2 = .ok (.if_icmp .gt 7, 3) := by decide +kernel
theorem dJ9_min_7cf53_5 : decode cJ9_min_7cf53 5 = .ok (.iload_n 0, 1) := by decide +kernel
theorem dJ9_min_7cf53_6 : decode cJ9_min_7cf53 6 = .ok (.goto 4, 3) := by decide +kernel
theorem dJ9_min_7cf53_9 : decode cJ9_min_7cf53 9 = .ok (.iload_n 1, 1) := by decide +kernel
theorem dJ9_min_7cf53_10 : decode cJ9_min_7cf53 10 = .ok (.ireturn, 1) := by decide +kernel
end
section
theorem dX6_init_0 : decode cX6_init 0 = .ok (.aload_n 0, 1) := by decide +kernel
theorem dX6_init_1 : decode cX6_init 1 = .ok (.invokespecial 1, 3) := by decide +kernel
theorem dX6_init_4 : decode cX6_init 4 = .ok (.aload_n 0, 1) := by decide +kernel
theorem dX6_init_5 : decode cX6_init 5 = .ok (.bipush 80, 2) := by decide +kernel
theorem dX6_init_7 : decode cX6_init 7 = .ok (.newarray .int, 2) := by decide +kernel
theorem dX6_init_9 : decode cX6_init 9 = .ok (.putfield 7, 3) := by decide +kernel
theorem dX6_init_12 : decode cX6_init 12 = .ok (.aload_n 0, 1) := by decide +kernel
theorem dX6_init_13 : decode cX6_init 13 = .ok (.bipush 40, 2) := by decide +kernel
theorem dX6_init_15 : decode cX6_init 15 = .ok (.newarray .int, 2) := by decide +kernel
theorem dX6_init_17 : decode cX6_init 17 = .ok (.putfield 13, 3) := by decide +kernel
theorem dX6_init_20 : decode cX6_init 20 = .ok (.aload_n 0, 1) := by decide +kernel
theorem dX6_init_21 : decode cX6_init 21 = .ok (.bipush 40, 2) := by decide +kernel
theorem dX6_init_23 : decode cX6_init 23 = .ok (.newarray .int, 2) := by decide +kernel
theorem dX6_init_25 : decode cX6_init 25 = .ok (.putfield 16, 3) := by decide +kernel
theorem dX6_init_28 : decode cX6_init 28 = .ok (.aload_n 0, 1) := by decide +kernel
theorem dX6_init_29 : decode cX6_init 29 = .ok (.bipush 40, 2) := by decide +kernel
theorem dX6_init_31 : decode cX6_init 31 = .ok (.newarray .int, 2) := by decide +kernel
theorem dX6_init_33 : decode cX6_init 33 = .ok (.putfield 19, 3) := by decide +kernel
theorem dX6_init_36 : decode cX6_init 36 = .ok (.aload_n 0, 1) := by decide +kernel
theorem dX6_init_37 : decode cX6_init 37 = .ok (.bipush 40, 2) := by decide +kernel
theorem dX6_init_39 : decode cX6_init 39 = .ok (.newarray .int, 2) := by decide +kernel
theorem dX6_init_41 : decode cX6_init 41 = .ok (.putfield 22, 3) := by decide +kernel
theorem dX6_init_44 : decode cX6_init 44 = .ok (.aload_n 0, 1) := by decide +kernel
theorem dX6_init_45 : decode cX6_init 45 = .ok (.sipush 1600, 3) := by decide +kernel
theorem dX6_init_48 : decode cX6_init 48 = .ok (.newarray .int, 2) := by decide +kernel
theorem dX6_init_50 : decode cX6_init 50 = .ok (.putfield 25, 3) := by decide +kernel
theorem dX6_init_53 : decode cX6_init 53 = .ok (.aload_n 0, 1) := by decide +kernel
theorem dX6_init_54 : decode cX6_init 54 = .ok (.bipush 20, 2) := by decide +kernel
theorem dX6_init_56 : decode cX6_init 56 = .ok (.newarray .int, 2) := by decide +kernel
theorem dX6_init_58 : decode cX6_init 58 = .ok (.putfield 28, 3) := by decide +kernel
theorem dX6_init_61 : decode cX6_init 61 = .ok (.aload_n 0, 1) := by decide +kernel
theorem dX6_init_62 : decode cX6_init 62 = .ok (.sipush 480, 3) := by decide +kernel
theorem dX6_init_65 : decode cX6_init 65 = .ok (.newarray .int, 2) := by decide +kernel
theorem dX6_init_67 : decode cX6_init 67 = .ok (.putfield 31, 3) := by decide +kernel
theorem dX6_init_70 : decode cX6_init 70 = .ok (.aload_n 0, 1) := by decide +kernel
theorem dX6_init_71 : decode cX6_init 71 = .ok (.bipush 6, 2) := by decide +kernel
theorem dX6_init_73 : decode cX6_init 73 = .ok (.newarray .int, 2) := by decide +kernel
theorem dX6_init_75 : decode cX6_init 75 = .ok (.putfield 34, 3) := by decide +kernel
theorem dX6_init_78 : decode cX6_init 78 = .ok (.aload_n 0, 1) := by decide +kernel
theorem dX6_init_79 : decode cX6_init 79 = .ok (.bipush 6, 2) := by decide +kernel
theorem dX6_init_81 : decode cX6_init 81 = .ok (.newarray .int, 2) := by decide +kernel
theorem dX6_init_83 : decode cX6_init 83 = .ok (.putfield 37, 3) := by decide +kernel
theorem dX6_init_86 : decode cX6_init 86 = .ok (.aload_n 0, 1) := by decide +kernel
theorem dX6_init_87 : decode cX6_init 87 = .ok (.bipush 20, 2) := by decide +kernel
theorem dX6_init_89 : decode cX6_init 89 = .ok (.putfield 40, 3) := by decide +kernel
theorem dX6_init_92 : decode cX6_init 92 = .ok (.aload_n 0, 1) := by decide +kernel
theorem dX6_init_93 : decode cX6_init 93 = .ok (.sipush 24000, 3) := by decide +kernel
theorem dX6_init_96 : decode cX6_init 96 = .ok (.newarray .int, 2) := by decide +kernel
theorem dX6_init_98 : decode cX6_init 98 = .ok (.putfield 44, 3) := by decide +kernel
theorem dX6_init_101 : decode cX6_init 101 = .ok (.aload_n 0, 1) := by decide +kernel
theorem dX6_init_102 : decode cX6_init 102 = .ok (.sipush 600, 3) := by decide +kernel
theorem dX6_init_105 : decode cX6_init 105 = .ok (.newarray .int, 2) := by decide +kernel
theorem dX6_init_107 : decode cX6_init 107 = .ok (.putfield 47, 3) := by decide +kernel
theorem dX6_init_110 : decode cX6_init 110 = .ok (.aload_n 0, 1) := by decide +kernel
theorem dX6_init_111 : decode cX6_init 111 = .ok (.bipush 6, 2) := by decide +kernel
theorem dX6_init_113 : decode cX6_init 113 = .ok (.newarray .int, 2) := by decide +kernel
theorem dX6_init_115 : decode cX6_init 115 = .ok (.putfield 50, 3) := by decide +kernel
theorem dX6_init_118 : decode cX6_init 118 = .ok (.aload_n 0, 1) := by decide +kernel
theorem dX6_init_119 : decode cX6_init 119 = .ok (.sipush 480, 3) := by decide +kernel
theorem dX6_init_122 : decode cX6_init 122 = .ok (.newarray .int, 2) := by decide +kernel
theorem dX6_init_124 : decode cX6_init 124 = .ok (.putfield 53, 3) := by decide +kernel
theorem dX6_init_127 : decode cX6_init 127 = .ok (.aload_n 0, 1) := by decide +kernel
theorem dX6_init_128 : decode cX6_init 128 = .ok (.sipush 5000, 3) := by decide +kernel
theorem dX6_init_131 : decode cX6_init 131 = .ok (.putfield 56, 3) := by decide +kernel
theorem dX6_init_134 : decode cX6_init 134 = .ok (.aload_n 0, 1) := by decide +kernel
theorem dX6_init_135 : decode cX6_init 135 = .ok (.bipush 6, 2) := by decide +kernel
theorem dX6_init_137 : decode cX6_init 137 = .ok (.newarray .int, 2) := by decide +kernel
theorem dX6_init_139 : decode cX6_init 139 = .ok (.putfield 59, 3) := by decide +kernel
theorem dX6_init_142 : decode cX6_init 142 = .ok (.aload_n 0, 1) := by decide +kernel
theorem dX6_init_143 : decode cX6_init 143 = .ok (.sipush 160, 3) := by decide +kernel
theorem dX6_init_146 : decode cX6_init 146 = .ok (.newarray .int, 2) := by decide +kernel
theorem dX6_init_148 : decode cX6_init 148 = .ok (.putfield 62, 3) := by decide +kernel
theorem dX6_init_151 : decode cX6_init 151 = .ok (.aload_n 0, 1) := by decide +kernel
theorem dX6_init_152 : decode cX6_init 152 = .ok (.sipush 1600, 3) := by decide +kernel
theorem dX6_init_155 : decode cX6_init 155 = .ok (.newarray .int, 2) := by decide +kernel
theorem dX6_init_157 : decode cX6_init 157 = .ok (.putfield 65, 3) := by decide +kernel
theorem dX6_init_160 : decode cX6_init 160 = .ok (.aload_n 0, 1) := by decide +kernel
theorem dX6_init_161 : decode cX6_init 161 = .ok (.sipush 4000, 3) := by decide +kernel
theorem dX6_init_164 : decode cX6_init 164 = .ok (.newarray .int, 2) := by decide +kernel
theorem dX6_init_166 : decode cX6_init 166 = .ok (.putfield 68, 3) := by decide +kernel
theorem dX6_init_169 : decode cX6_init 169 = .ok (.aload_n 0, 1) := by decide +kernel
theorem dX6_init_170 : decode cX6_init 170 = .ok (.bipush 100, 2) := by decide +kernel
theorem dX6_init_172 : decode cX6_init 172 = .ok (.newarray .int, 2) := by decide +kernel
theorem dX6_init_174 : decode cX6_init 174 = .ok (.putfield 71, 3) := by decide +kernel
theorem dX6_init_177 : decode cX6_init 177 = .ok (.return_, 1) := by decide +kernel
theorem dX6_thrown_0 : decode cX6_thrown 0 = .ok (.aload_n 0, 1) := by decide +kernel
theorem dX6_thrown_1 : decode cX6_thrown 1 = .ok (.getfield 74, 3) := by decide +kernel
theorem dX6_thrown_4 : decode cX6_thrown 4 = .ok (.ireturn, 1) := by decide +kernel
theorem dX6_in_0 : decode cX6_in 0 = .ok (.iload_n 0, 1) := by decide +kernel
theorem dX6_in_1 : decode cX6_in 1 = .ok (.iload_n 1, 1) := by decide +kernel
theorem dX6_in_2 : decode cX6_in 2 = .ok (.if_icmp .lt 12, 3) := by decide +kernel
theorem dX6_in_5 : decode cX6_in 5 = .ok (.iload_n 0, 1) := by decide +kernel
theorem dX6_in_6 : decode cX6_in 6 = .ok (.iload_n 2, 1) := by decide +kernel
theorem dX6_in_7 : decode cX6_in 7 = .ok (.if_icmp .gt 7, 3) := by decide +kernel
theorem dX6_in_10 : decode cX6_in 10 = .ok (.iconst 1, 1) := by decide +kernel
theorem dX6_in_11 : decode cX6_in 11 = .ok (.goto 4, 3) := by decide +kernel
theorem dX6_in_14 : decode cX6_in 14 = .ok (.iconst 0, 1) := by decide +kernel
theorem dX6_in_15 : decode cX6_in 15 = .ok (.ireturn, 1) := by decide +kernel
theorem dX6_goesOn_0 : decode cX6_goesOn 0 = .ok (.aload_n 0, 1) := by decide +kernel
theorem dX6_goesOn_1 : decode cX6_goesOn 1 = .ok (.iload_n 1, 1) := by decide +kernel
theorem dX6_goesOn_2 : decode cX6_goesOn 2 = .ok (.putfield 74, 3) := by decide +kernel
theorem dX6_goesOn_5 : decode cX6_goesOn 5 = .ok (.iload_n 1, 1) := by decide +kernel
theorem dX6_goesOn_6 : decode cX6_goesOn 6 = .ok (.ifCond .ne 7, 3) := by decide +kernel
theorem dX6_goesOn_9 : decode cX6_goesOn 9 = .ok (.iconst 1, 1) := by decide +kernel
theorem dX6_goesOn_10 : decode cX6_goesOn 10 = .ok (.goto 4, 3) := by decide +kernel
theorem dX6_goesOn_13 : decode cX6_goesOn 13 = .ok (.iconst 0, 1) := by decide +kernel
theorem dX6_goesOn_14 : decode cX6_goesOn 14 = .ok (.ireturn, 1) := by decide +kernel
theorem dX6_type_0 : decode cX6_type 0 = .ok (.iload_n 1, 1) := by decide +kernel
theorem dX6_type_1 : decode cX6_type 1 = .ok (.bipush 32, 2) := by decide +kernel
theorem dX6_type_3 : decode cX6_type 3 = .ok (.if_icmp .eq 14, 3) := by decide +kernel
theorem dX6_type_6 : decode cX6_type 6 = .ok (.iload_n 1, 1) := by decide +kernel
theorem dX6_type_7 : decode cX6_type 7 = .ok (.bipush 97, 2) := by decide +kernel
theorem dX6_type_9 : decode cX6_type 9 = .ok (.bipush 122, 2) := by decide +kernel
theorem dX6_type_11 : decode cX6_type 11 = .ok (.invokestatic 77, 3) := by decide +kernel
theorem dX6_type_14 : decode cX6_type 14 = .ok (.ifCond .eq 7, 3) := by decide +kernel
theorem dX6_type_17 : decode cX6_type 17 = .ok (.iconst 1, 1) := by decide +kernel
theorem dX6_type_18 : decode cX6_type 18 = .ok (.goto 4, 3) := by decide +kernel
theorem dX6_type_21 : decode cX6_type 21 = .ok (.iconst 0, 1) := by decide +kernel
theorem dX6_type_22 : decode cX6_type 22 = .ok (.istore_n 2, 1) := by decide +kernel
theorem dX6_type_23 : decode cX6_type 23 = .ok (.aload_n 0, 1) := by decide +kernel
theorem dX6_type_24 : decode cX6_type 24 = .ok (.iload_n 2, 1) := by decide +kernel
theorem dX6_type_25 : decode cX6_type 25 = .ok (.ifCond .ne 7, 3) := by decide +kernel
theorem dX6_type_28 : decode cX6_type 28 = .ok (.iconst 1, 1) := by decide +kernel
theorem dX6_type_29 : decode cX6_type 29 = .ok (.goto 17, 3) := by decide +kernel
theorem dX6_type_32 : decode cX6_type 32 = .ok (.aload_n 0, 1) := by decide +kernel
theorem dX6_type_33 : decode cX6_type 33 = .ok (.getfield 81, 3) := by decide +kernel
theorem dX6_type_36 : decode cX6_type 36 = .ok (.bipush 80, 2) := by decide +kernel
theorem dX6_type_38 : decode cX6_type 38 = .ok (.if_icmp .ne 7, 3) := by decide +kernel
theorem dX6_type_41 : decode cX6_type 41 = .ok (.iconst 2, 1) := by decide +kernel
theorem dX6_type_42 : decode cX6_type 42 = .ok (.goto 4, 3) := by decide +kernel
theorem dX6_type_45 : decode cX6_type 45 = .ok (.iconst 0, 1) := by decide +kernel
theorem dX6_type_46 : decode cX6_type 46 = .ok (.invokevirtual 84, 3) := by decide +kernel
theorem dX6_type_49 : decode cX6_type 49 = .ok (.ifCond .ne 5, 3) := by decide +kernel
theorem dX6_type_52 : decode cX6_type 52 = .ok (.iconst 0, 1) := by decide +kernel
theorem dX6_type_53 : decode cX6_type 53 = .ok (.ireturn, 1) := by decide +kernel
theorem dX6_type_54 : decode cX6_type 54 = .ok (.aload_n 0, 1) := by decide +kernel
theorem dX6_type_55 : decode cX6_type 55 = .ok (.getfield 7, 3) := by decide +kernel
theorem dX6_type_58 : decode cX6_type 58 = .ok (.aload_n 0, 1) := by decide +kernel
theorem dX6_type_59 : decode cX6_type 59 = .ok (.getfield 81, 3) := by decide +kernel
theorem dX6_type_62 : decode cX6_type 62 = .ok (.iload_n 1, 1) := by decide +kernel
theorem dX6_type_63 : decode cX6_type 63 = .ok (.bipush 32, 2) := by decide +kernel
theorem dX6_type_65 : decode cX6_type 65 = .ok (.if_icmp .ne 7, 3) := by decide +kernel
theorem dX6_type_68 : decode cX6_type 68 = .ok (.iconst 0, 1) := by decide +kernel
theorem dX6_type_69 : decode cX6_type 69 = .ok (.goto 9, 3) := by decide +kernel
theorem dX6_type_72 : decode cX6_type 72 = .ok (.iload_n 1, 1) := by decide +kernel
theorem dX6_type_73 : decode cX6_type 73 = .ok (.bipush 97, 2) := by decide +kernel
theorem dX6_type_75 : decode cX6_type 75 = .ok (.isub, 1) := by decide +kernel
theorem dX6_type_76 : decode cX6_type 76 = .ok (.iconst 1, 1) := by decide +kernel
theorem dX6_type_77 : decode cX6_type 77 = .ok (.iadd, 1) := by decide +kernel
theorem dX6_type_78 : decode cX6_type 78 = .ok (.iastore, 1) := by decide +kernel
theorem dX6_type_79 : decode cX6_type 79 = .ok (.aload_n 0, 1) := by decide +kernel
theorem dX6_type_80 : decode cX6_type 80 = .ok (.dup, 1) := by decide +kernel
theorem dX6_type_81 : decode cX6_type 81 = .ok (.getfield 81, 3) := by decide +kernel
theorem dX6_type_84 : decode cX6_type 84 = .ok (.iconst 1, 1) := by decide +kernel
theorem dX6_type_85 : decode cX6_type 85 = .ok (.iadd, 1) := by decide +kernel
theorem dX6_type_86 : decode cX6_type 86 = .ok (.putfield 81, 3) := by decide +kernel
theorem dX6_type_89 : decode cX6_type 89 = .ok (.aload_n 0, 1) := by decide +kernel
theorem dX6_type_90 : decode cX6_type 90 = .ok (.getfield 81, 3) := by decide +kernel
theorem dX6_type_93 : decode cX6_type 93 = .ok (.ireturn, 1) := by decide +kernel
theorem dX6_clear_0 : decode cX6_clear 0 = .ok (.aload_n 0, 1) := by decide +kernel
theorem dX6_clear_1 : decode cX6_clear 1 = .ok (.iconst 0, 1) := by decide +kernel
theorem dX6_clear_2 : decode cX6_clear 2 = .ok (.putfield 74, 3) := by decide +kernel
theorem dX6_clear_5 : decode cX6_clear 5 = .ok (.aload_n 0, 1) := by decide +kernel
theorem dX6_clear_6 : decode cX6_clear 6 = .ok (.getfield 81, 3) := by decide +kernel
theorem dX6_clear_9 : decode cX6_clear 9 = .ok (.istore_n 1, 1) := by decide +kernel
theorem dX6_clear_10 : decode cX6_clear 10 = .ok (.aload_n 0, 1) := by decide +kernel
theorem dX6_clear_11 : decode cX6_clear 11 = .ok (.iconst 0, 1) := by decide +kernel
theorem dX6_clear_12 : decode cX6_clear 12 = .ok (.putfield 81, 3) := by decide +kernel
theorem dX6_clear_15 : decode cX6_clear 15 = .ok (.iload_n 1, 1) := by decide +kernel
theorem dX6_clear_16 : decode cX6_clear 16 = .ok (.ireturn, 1) := by decide +kernel
theorem dX6_hasBlank_0 : decode cX6_hasBlank 0 = .ok (.iconst 0, 1) := by decide +kernel
theorem dX6_hasBlank_1 : decode cX6_hasBlank 1 = .ok (.istore_n 1, 1) := by decide +kernel
theorem dX6_hasBlank_2 : decode cX6_hasBlank 2 = .ok (.iconst 0, 1) := by decide +kernel
theorem dX6_hasBlank_3 : decode cX6_hasBlank 3 = .ok (.istore_n 2, 1) := by decide +kernel
theorem dX6_hasBlank_4 : decode cX6_hasBlank 4 = .ok (.iload_n 2, 1) := by decide +kernel
theorem dX6_hasBlank_5 : decode cX6_hasBlank 5 = .ok (.aload_n 0, 1) := by decide +kernel
theorem dX6_hasBlank_6 : decode cX6_hasBlank 6 = .ok (.getfield 81, 3) := by decide +kernel
theorem dX6_hasBlank_9 : decode cX6_hasBlank 9 = .ok (.if_icmp .ge 28, 3) := by decide +kernel
theorem dX6_hasBlank_12 : decode cX6_hasBlank 12 = .ok (.iload_n 1, 1) := by decide +kernel
theorem dX6_hasBlank_13 : decode cX6_hasBlank 13 = .ok (.ifCond .ne 12, 3) := by decide +kernel
theorem dX6_hasBlank_16 : decode cX6_hasBlank 16 = .ok (.aload_n 0, 1) := by decide +kernel
theorem dX6_hasBlank_17 : decode cX6_hasBlank 17 = .ok (.getfield 7, 3) := by decide +kernel
theorem dX6_hasBlank_20 : decode cX6_hasBlank 20 = .ok (.iload_n 2, 1) := by decide +kernel
theorem dX6_hasBlank_21 : decode cX6_hasBlank 21 = .ok (.iaload, 1) := by decide +kernel
theorem dX6_hasBlank_22 : decode cX6_hasBlank 22 = .ok (.ifCond .ne 7, 3) := by decide +kernel
theorem dX6_hasBlank_25 : decode cX6_hasBlank 25 = .ok (.iconst 1, 1) := by decide +kernel
theorem dX6_hasBlank_26 : decode cX6_hasBlank 26 = .ok (.goto 4, 3) := by decide +kernel
theorem dX6_hasBlank_29 : decode cX6_hasBlank 29 = .ok (.iconst 0, 1) := by decide +kernel
theorem dX6_hasBlank_30 : decode cX6_hasBlank 30 = .ok (.istore_n 1, 1) := by decide +kernel
theorem dX6_hasBlank_31 : decode cX6_hasBlank 31 = .ok (.iinc 2 1, 3) := by decide +kernel
theorem dX6_hasBlank_34 : decode cX6_hasBlank 34 = .ok (.goto (-30), 3) := by decide +kernel
theorem dX6_hasBlank_37 : decode cX6_hasBlank 37 = .ok (.iload_n 1, 1) := by decide +kernel
theorem dX6_hasBlank_38 : decode cX6_hasBlank 38 = .ok (.ireturn, 1) := by decide +kernel
theorem dX6_ruleLetters_0 : decode cX6_ruleLetters 0 = .ok (.aload_n 0, 1) := by decide +kernel
theorem dX6_ruleLetters_1 : decode cX6_ruleLetters 1 = .ok (.getfield 81, 3) := by decide +kernel
theorem dX6_ruleLetters_4 : decode cX6_ruleLetters 4 = .ok (.iconst 1, 1) := by decide +kernel
theorem dX6_ruleLetters_5 : decode cX6_ruleLetters 5 = .ok (.iconst 4, 1) := by decide +kernel
theorem dX6_ruleLetters_6 : decode cX6_ruleLetters 6 = .ok (.invokestatic 77, 3) := by decide +kernel
theorem dX6_ruleLetters_9 : decode cX6_ruleLetters 9 = .ok (.ifCond .eq 10, 3) := by decide +kernel
theorem dX6_ruleLetters_12 : decode cX6_ruleLetters 12 = .ok (.aload_n 0, 1) := by decide +kernel
theorem dX6_ruleLetters_13 : decode cX6_ruleLetters 13 = .ok (.invokevirtual 88, 3) := by decide +kernel
theorem dX6_ruleLetters_16 : decode cX6_ruleLetters 16 = .ok (.ifCond .eq 5, 3) := by decide +kernel
theorem dX6_ruleLetters_19 : decode cX6_ruleLetters 19 = .ok (.iconst (-1), 1) := by decide +kernel
theorem dX6_ruleLetters_20 : decode cX6_ruleLetters 20 = .ok (.ireturn, 1) := by decide +kernel
theorem dX6_ruleLetters_21 : decode cX6_ruleLetters 21 = .ok (.iconst 0, 1) := by decide +kernel
theorem dX6_ruleLetters_22 : decode cX6_ruleLetters 22 = .ok (.istore_n 1, 1) := by decide +kernel
theorem dX6_ruleLetters_23 : decode cX6_ruleLetters 23 = .ok (.iconst 0, 1) := by decide +kernel
theorem dX6_ruleLetters_24 : decode cX6_ruleLetters 24 = .ok (.istore_n 2, 1) := by decide +kernel
theorem dX6_ruleLetters_25 : decode cX6_ruleLetters 25 = .ok (.iload_n 2, 1) := by decide +kernel
theorem dX6_ruleLetters_26 : decode cX6_ruleLetters 26 = .ok (.iconst 4, 1) := by decide +kernel
theorem dX6_ruleLetters_27 : decode cX6_ruleLetters 27 = .ok (.if_icmp .ge 33, 3) := by decide +kernel
theorem dX6_ruleLetters_30 : decode cX6_ruleLetters 30 = .ok (.bipush 27, 2) := by decide +kernel
theorem dX6_ruleLetters_32 : decode cX6_ruleLetters 32 = .ok (.iload_n 1, 1) := by decide +kernel
theorem dX6_ruleLetters_33 : decode cX6_ruleLetters 33 = .ok (.imul, 1) := by decide +kernel
theorem dX6_ruleLetters_34 : decode cX6_ruleLetters 34 = .ok (.iload_n 2, 1) := by decide +kernel
theorem dX6_ruleLetters_35 : decode cX6_ruleLetters 35 = .ok (.aload_n 0, 1) := by decide +kernel
theorem dX6_ruleLetters_36 : decode cX6_ruleLetters 36 = .ok (.getfield 81, 3) := by decide +kernel
theorem dX6_ruleLetters_39 : decode cX6_ruleLetters 39 = .ok (.if_icmp .ge 12, 3) := by decide +kernel
theorem dX6_ruleLetters_42 : decode cX6_ruleLetters 42 = .ok (.aload_n 0, 1) := by decide +kernel
theorem dX6_ruleLetters_43 : decode cX6_ruleLetters 43 = .ok (.getfield 7, 3) := by decide +kernel
theorem dX6_ruleLetters_46 : decode cX6_ruleLetters 46 = .ok (.iload_n 2, 1) := by decide +kernel
theorem dX6_ruleLetters_47 : decode cX6_ruleLetters 47 = .ok (.iaload, 1) := by decide +kernel
theorem dX6_ruleLetters_48 : decode cX6_ruleLetters 48 = .ok (.goto 4, 3) := by decide +kernel
theorem dX6_ruleLetters_51 : decode cX6_ruleLetters 51 = .ok (.iconst 0, 1) := by decide +kernel
theorem dX6_ruleLetters_52 : decode cX6_ruleLetters 52 = .ok (.iadd, 1) := by decide +kernel
theorem dX6_ruleLetters_53 : decode cX6_ruleLetters 53 = .ok (.istore_n 1, 1) := by decide +kernel
theorem dX6_ruleLetters_54 : decode cX6_ruleLetters 54 = .ok (.iinc 2 1, 3) := by decide +kernel
theorem dX6_ruleLetters_57 : decode cX6_ruleLetters 57 = .ok (.goto (-32), 3) := by decide +kernel
theorem dX6_ruleLetters_60 : decode cX6_ruleLetters 60 = .ok (.iload_n 1, 1) := by decide +kernel
theorem dX6_ruleLetters_61 : decode cX6_ruleLetters 61 = .ok (.ireturn, 1) := by decide +kernel
theorem dX6_power_0 : decode cX6_power 0 = .ok (.iload_n 0, 1) := by decide +kernel
theorem dX6_power_1 : decode cX6_power 1 = .ok (.ifCond .ne 9, 3) := by decide +kernel
theorem dX6_power_4 : decode cX6_power 4 = .ok (.sipush 19683, 3) := by decide +kernel
theorem dX6_power_7 : decode cX6_power 7 = .ok (.goto 25, 3) := by decide +kernel
theorem dX6_power_10 : decode cX6_power 10 = .ok (.iload_n 0, 1) := by decide +kernel
theorem dX6_power_11 : decode cX6_power 11 = .ok (.iconst 1, 1) := by decide +kernel
theorem dX6_power_12 : decode cX6_power 12 = .ok (.if_icmp .ne 9, 3) := by decide +kernel
theorem dX6_power_15 : decode cX6_power 15 = .ok (.sipush 729, 3) := by decide +kernel
theorem dX6_power_18 : decode cX6_power 18 = .ok (.goto 14, 3) := by decide +kernel
theorem dX6_power_21 : decode cX6_power 21 = .ok (.iload_n 0, 1) := by decide +kernel
theorem dX6_power_22 : decode cX6_power 22 = .ok (.iconst 2, 1) := by decide +kernel
theorem dX6_power_23 : decode cX6_power 23 = .ok (.if_icmp .ne 8, 3) := by decide +kernel
theorem dX6_power_26 : decode cX6_power 26 = .ok (.bipush 27, 2) := by decide +kernel
theorem dX6_power_28 : decode cX6_power 28 = .ok (.goto 4, 3) := by decide +kernel
theorem dX6_power_31 : decode cX6_power 31 = .ok (.iconst 1, 1) := by decide +kernel
theorem dX6_power_32 : decode cX6_power 32 = .ok (.ireturn, 1) := by decide +kernel
theorem dX6_letterOf_0 : decode cX6_letterOf 0 = .ok (.aload_n 0, 1) := by decide +kernel
theorem dX6_letterOf_1 : decode cX6_letterOf 1 = .ok (.getfield 13, 3) := by decide +kernel
theorem dX6_letterOf_4 : decode cX6_letterOf 4 = .ok (.iload_n 1, 1) := by decide +kernel
theorem dX6_letterOf_5 : decode cX6_letterOf 5 = .ok (.iaload, 1) := by decide +kernel
theorem dX6_letterOf_6 : decode cX6_letterOf 6 = .ok (.iload_n 2, 1) := by decide +kernel
theorem dX6_letterOf_7 : decode cX6_letterOf 7 = .ok (.invokestatic 92, 3) := by decide +kernel
theorem dX6_letterOf_10 : decode cX6_letterOf 10 = .ok (.idiv, 1) := by decide +kernel
theorem dX6_letterOf_11 : decode cX6_letterOf 11 = .ok (.bipush 27, 2) := by decide +kernel
theorem dX6_letterOf_13 : decode cX6_letterOf 13 = .ok (.irem, 1) := by decide +kernel
theorem dX6_letterOf_14 : decode cX6_letterOf 14 = .ok (.ireturn, 1) := by decide +kernel
theorem dX6_lengthOf_0 : decode cX6_lengthOf 0 = .ok (.iconst 0, 1) := by decide +kernel
theorem dX6_lengthOf_1 : decode cX6_lengthOf 1 = .ok (.istore_n 2, 1) := by decide +kernel
theorem dX6_lengthOf_2 : decode cX6_lengthOf 2 = .ok (.iconst 0, 1) := by decide +kernel
theorem dX6_lengthOf_3 : decode cX6_lengthOf 3 = .ok (.istore_n 3, 1) := by decide +kernel
theorem dX6_lengthOf_4 : decode cX6_lengthOf 4 = .ok (.iload_n 3, 1) := by decide +kernel
theorem dX6_lengthOf_5 : decode cX6_lengthOf 5 = .ok (.iconst 4, 1) := by decide +kernel
theorem dX6_lengthOf_6 : decode cX6_lengthOf 6 = .ok (.if_icmp .ge 26, 3) := by decide +kernel
theorem dX6_lengthOf_9 : decode cX6_lengthOf 9 = .ok (.iload_n 2, 1) := by decide +kernel
theorem dX6_lengthOf_10 : decode cX6_lengthOf 10 = .ok (.aload_n 0, 1) := by decide +kernel
theorem dX6_lengthOf_11 : decode cX6_lengthOf 11 = .ok (.iload_n 1, 1) := by decide +kernel
theorem dX6_lengthOf_12 : decode cX6_lengthOf 12 = .ok (.iload_n 3, 1) := by decide +kernel
theorem dX6_lengthOf_13 : decode cX6_lengthOf 13 = .ok (.invokevirtual 96, 3) := by decide +kernel
theorem dX6_lengthOf_16 : decode cX6_lengthOf 16 = .ok (.ifCond .le 7, 3) := by decide +kernel
theorem dX6_lengthOf_19 : decode cX6_lengthOf 19 = .ok (.iconst 1, 1) := by decide +kernel
theorem dX6_lengthOf_20 : decode cX6_lengthOf 20 = .ok (.goto 4, 3) := by decide +kernel
theorem dX6_lengthOf_23 : decode cX6_lengthOf 23 = .ok (.iconst 0, 1) := by decide +kernel
theorem dX6_lengthOf_24 : decode cX6_lengthOf 24 = .ok (.iadd, 1) := by decide +kernel
theorem dX6_lengthOf_25 : decode cX6_lengthOf 25 = .ok (.istore_n 2, 1) := by decide +kernel
theorem dX6_lengthOf_26 : decode cX6_lengthOf 26 = .ok (.iinc 3 1, 3) := by decide +kernel
theorem dX6_lengthOf_29 : decode cX6_lengthOf 29 = .ok (.goto (-25), 3) := by decide +kernel
theorem dX6_lengthOf_32 : decode cX6_lengthOf 32 = .ok (.iload_n 2, 1) := by decide +kernel
theorem dX6_lengthOf_33 : decode cX6_lengthOf 33 = .ok (.ireturn, 1) := by decide +kernel
theorem dX6_ruleOf_0 : decode cX6_ruleOf 0 = .ok (.iconst (-1), 1) := by decide +kernel
theorem dX6_ruleOf_1 : decode cX6_ruleOf 1 = .ok (.istore_n 2, 1) := by decide +kernel
theorem dX6_ruleOf_2 : decode cX6_ruleOf 2 = .ok (.iconst 0, 1) := by decide +kernel
theorem dX6_ruleOf_3 : decode cX6_ruleOf 3 = .ok (.istore_n 3, 1) := by decide +kernel
theorem dX6_ruleOf_4 : decode cX6_ruleOf 4 = .ok (.iload_n 3, 1) := by decide +kernel
theorem dX6_ruleOf_5 : decode cX6_ruleOf 5 = .ok (.aload_n 0, 1) := by decide +kernel
theorem dX6_ruleOf_6 : decode cX6_ruleOf 6 = .ok (.getfield 100, 3) := by decide +kernel
theorem dX6_ruleOf_9 : decode cX6_ruleOf 9 = .ok (.if_icmp .ge 25, 3) := by decide +kernel
theorem dX6_ruleOf_12 : decode cX6_ruleOf 12 = .ok (.aload_n 0, 1) := by decide +kernel
theorem dX6_ruleOf_13 : decode cX6_ruleOf 13 = .ok (.getfield 13, 3) := by decide +kernel
theorem dX6_ruleOf_16 : decode cX6_ruleOf 16 = .ok (.iload_n 3, 1) := by decide +kernel
theorem dX6_ruleOf_17 : decode cX6_ruleOf 17 = .ok (.iaload, 1) := by decide +kernel
theorem dX6_ruleOf_18 : decode cX6_ruleOf 18 = .ok (.iload_n 1, 1) := by decide +kernel
theorem dX6_ruleOf_19 : decode cX6_ruleOf 19 = .ok (.if_icmp .ne 7, 3) := by decide +kernel
theorem dX6_ruleOf_22 : decode cX6_ruleOf 22 = .ok (.iload_n 3, 1) := by decide +kernel
theorem dX6_ruleOf_23 : decode cX6_ruleOf 23 = .ok (.goto 4, 3) := by decide +kernel
theorem dX6_ruleOf_26 : decode cX6_ruleOf 26 = .ok (.iload_n 2, 1) := by decide +kernel
theorem dX6_ruleOf_27 : decode cX6_ruleOf 27 = .ok (.istore_n 2, 1) := by decide +kernel
theorem dX6_ruleOf_28 : decode cX6_ruleOf 28 = .ok (.iinc 3 1, 3) := by decide +kernel
theorem dX6_ruleOf_31 : decode cX6_ruleOf 31 = .ok (.goto (-27), 3) := by decide +kernel
theorem dX6_ruleOf_34 : decode cX6_ruleOf 34 = .ok (.iload_n 2, 1) := by decide +kernel
theorem dX6_ruleOf_35 : decode cX6_ruleOf 35 = .ok (.ireturn, 1) := by decide +kernel
theorem dX6_areFine_0 : decode cX6_areFine 0 = .ok (.iload_n 0, 1) := by decide +kernel
theorem dX6_areFine_1 : decode cX6_areFine 1 = .ok (.iconst 1, 1) := by decide +kernel
theorem dX6_areFine_2 : decode cX6_areFine 2 = .ok (.iconst 2, 1) := by decide +kernel
theorem dX6_areFine_3 : decode cX6_areFine 3 = .ok (.invokestatic 77, 3) := by decide +kernel
theorem dX6_areFine_6 : decode cX6_areFine 6 = .ok (.ifCond .eq 27, 3) := by decide +kernel
theorem dX6_areFine_9 : decode cX6_areFine 9 = .ok (.iload_n 1, 1) := by decide +kernel
theorem dX6_areFine_10 : decode cX6_areFine 10 = .ok (.iconst 1, 1) := by decide +kernel
theorem dX6_areFine_11 : decode cX6_areFine 11 = .ok (.bipush 63, 2) := by decide +kernel
theorem dX6_areFine_13 : decode cX6_areFine 13 = .ok (.invokestatic 77, 3) := by decide +kernel
theorem dX6_areFine_16 : decode cX6_areFine 16 = .ok (.ifCond .eq 17, 3) := by decide +kernel
theorem dX6_areFine_19 : decode cX6_areFine 19 = .ok (.iload_n 2, 1) := by decide +kernel
theorem dX6_areFine_20 : decode cX6_areFine 20 = .ok (.iconst 0, 1) := by decide +kernel
theorem dX6_areFine_21 : decode cX6_areFine 21 = .ok (.bipush 63, 2) := by decide +kernel
theorem dX6_areFine_23 : decode cX6_areFine 23 = .ok (.invokestatic 77, 3) := by decide +kernel
theorem dX6_areFine_26 : decode cX6_areFine 26 = .ok (.ifCond .eq 7, 3) := by decide +kernel
theorem dX6_areFine_29 : decode cX6_areFine 29 = .ok (.iconst 1, 1) := by decide +kernel
theorem dX6_areFine_30 : decode cX6_areFine 30 = .ok (.goto 4, 3) := by decide +kernel
theorem dX6_areFine_33 : decode cX6_areFine 33 = .ok (.iconst 0, 1) := by decide +kernel
theorem dX6_areFine_34 : decode cX6_areFine 34 = .ok (.ireturn, 1) := by decide +kernel
theorem dX6_moves_0 : decode cX6_moves 0 = .ok (.aload_n 0, 1) := by decide +kernel
theorem dX6_moves_1 : decode cX6_moves 1 = .ok (.getfield 13, 3) := by decide +kernel
theorem dX6_moves_4 : decode cX6_moves 4 = .ok (.iload_n 2, 1) := by decide +kernel
theorem dX6_moves_5 : decode cX6_moves 5 = .ok (.aload_n 0, 1) := by decide +kernel
theorem dX6_moves_6 : decode cX6_moves 6 = .ok (.getfield 13, 3) := by decide +kernel
theorem dX6_moves_9 : decode cX6_moves 9 = .ok (.iload_n 1, 1) := by decide +kernel
theorem dX6_moves_10 : decode cX6_moves 10 = .ok (.iaload, 1) := by decide +kernel
theorem dX6_moves_11 : decode cX6_moves 11 = .ok (.iastore, 1) := by decide +kernel
theorem dX6_moves_12 : decode cX6_moves 12 = .ok (.aload_n 0, 1) := by decide +kernel
theorem dX6_moves_13 : decode cX6_moves 13 = .ok (.getfield 16, 3) := by decide +kernel
theorem dX6_moves_16 : decode cX6_moves 16 = .ok (.iload_n 2, 1) := by decide +kernel
theorem dX6_moves_17 : decode cX6_moves 17 = .ok (.aload_n 0, 1) := by decide +kernel
theorem dX6_moves_18 : decode cX6_moves 18 = .ok (.getfield 16, 3) := by decide +kernel
theorem dX6_moves_21 : decode cX6_moves 21 = .ok (.iload_n 1, 1) := by decide +kernel
theorem dX6_moves_22 : decode cX6_moves 22 = .ok (.iaload, 1) := by decide +kernel
theorem dX6_moves_23 : decode cX6_moves 23 = .ok (.iastore, 1) := by decide +kernel
theorem dX6_moves_24 : decode cX6_moves 24 = .ok (.aload_n 0, 1) := by decide +kernel
theorem dX6_moves_25 : decode cX6_moves 25 = .ok (.getfield 19, 3) := by decide +kernel
theorem dX6_moves_28 : decode cX6_moves 28 = .ok (.iload_n 2, 1) := by decide +kernel
theorem dX6_moves_29 : decode cX6_moves 29 = .ok (.aload_n 0, 1) := by decide +kernel
theorem dX6_moves_30 : decode cX6_moves 30 = .ok (.getfield 19, 3) := by decide +kernel
theorem dX6_moves_33 : decode cX6_moves 33 = .ok (.iload_n 1, 1) := by decide +kernel
theorem dX6_moves_34 : decode cX6_moves 34 = .ok (.iaload, 1) := by decide +kernel
theorem dX6_moves_35 : decode cX6_moves 35 = .ok (.iastore, 1) := by decide +kernel
theorem dX6_moves_36 : decode cX6_moves 36 = .ok (.aload_n 0, 1) := by decide +kernel
theorem dX6_moves_37 : decode cX6_moves 37 = .ok (.getfield 22, 3) := by decide +kernel
theorem dX6_moves_40 : decode cX6_moves 40 = .ok (.iload_n 2, 1) := by decide +kernel
theorem dX6_moves_41 : decode cX6_moves 41 = .ok (.aload_n 0, 1) := by decide +kernel
theorem dX6_moves_42 : decode cX6_moves 42 = .ok (.getfield 22, 3) := by decide +kernel
theorem dX6_moves_45 : decode cX6_moves 45 = .ok (.iload_n 1, 1) := by decide +kernel
theorem dX6_moves_46 : decode cX6_moves 46 = .ok (.iaload, 1) := by decide +kernel
theorem dX6_moves_47 : decode cX6_moves 47 = .ok (.iastore, 1) := by decide +kernel
theorem dX6_moves_48 : decode cX6_moves 48 = .ok (.return_, 1) := by decide +kernel
theorem dX6_puts_0 : decode cX6_puts 0 = .ok (.aload_n 0, 1) := by decide +kernel
theorem dX6_puts_1 : decode cX6_puts 1 = .ok (.getfield 13, 3) := by decide +kernel
theorem dX6_puts_4 : decode cX6_puts 4 = .ok (.iload_n 1, 1) := by decide +kernel
theorem dX6_puts_5 : decode cX6_puts 5 = .ok (.iload_n 2, 1) := by decide +kernel
theorem dX6_puts_6 : decode cX6_puts 6 = .ok (.iastore, 1) := by decide +kernel
theorem dX6_puts_7 : decode cX6_puts 7 = .ok (.aload_n 0, 1) := by decide +kernel
theorem dX6_puts_8 : decode cX6_puts 8 = .ok (.getfield 16, 3) := by decide +kernel
theorem dX6_puts_11 : decode cX6_puts 11 = .ok (.iload_n 1, 1) := by decide +kernel
theorem dX6_puts_12 : decode cX6_puts 12 = .ok (.iload_n 3, 1) := by decide +kernel
theorem dX6_puts_13 : decode cX6_puts 13 = .ok (.iastore, 1) := by decide +kernel
theorem dX6_puts_14 : decode cX6_puts 14 = .ok (.aload_n 0, 1) := by decide +kernel
theorem dX6_puts_15 : decode cX6_puts 15 = .ok (.getfield 19, 3) := by decide +kernel
theorem dX6_puts_18 : decode cX6_puts 18 = .ok (.iload_n 1, 1) := by decide +kernel
theorem dX6_puts_19 : decode cX6_puts 19 = .ok (.iload 4, 2) := by decide +kernel
theorem dX6_puts_21 : decode cX6_puts 21 = .ok (.iastore, 1) := by decide +kernel
theorem dX6_puts_22 : decode cX6_puts 22 = .ok (.aload_n 0, 1) := by decide +kernel
theorem dX6_puts_23 : decode cX6_puts 23 = .ok (.getfield 22, 3) := by decide +kernel
theorem dX6_puts_26 : decode cX6_puts 26 = .ok (.iload_n 1, 1) := by decide +kernel
theorem dX6_puts_27 : decode cX6_puts 27 = .ok (.iload 5, 2) := by decide +kernel
theorem dX6_puts_29 : decode cX6_puts 29 = .ok (.iastore, 1) := by decide +kernel
theorem dX6_puts_30 : decode cX6_puts 30 = .ok (.return_, 1) := by decide +kernel
theorem dX6_addRule_0 : decode cX6_addRule 0 = .ok (.aload_n 0, 1) := by decide +kernel
theorem dX6_addRule_1 : decode cX6_addRule 1 = .ok (.invokevirtual 103, 3) := by decide +kernel
theorem dX6_addRule_4 : decode cX6_addRule 4 = .ok (.istore 4, 2) := by decide +kernel
theorem dX6_addRule_6 : decode cX6_addRule 6 = .ok (.iload_n 1, 1) := by decide +kernel
theorem dX6_addRule_7 : decode cX6_addRule 7 = .ok (.iload_n 2, 1) := by decide +kernel
theorem dX6_addRule_8 : decode cX6_addRule 8 = .ok (.iload_n 3, 1) := by decide +kernel
theorem dX6_addRule_9 : decode cX6_addRule 9 = .ok (.invokestatic 107, 3) := by decide +kernel
theorem dX6_addRule_12 : decode cX6_addRule 12 = .ok (.ifCond .eq 13, 3) := by decide +kernel
theorem dX6_addRule_15 : decode cX6_addRule 15 = .ok (.iload 4, 2) := by decide +kernel
theorem dX6_addRule_17 : decode cX6_addRule 17 = .ok (.iconst (-1), 1) := by decide +kernel
theorem dX6_addRule_18 : decode cX6_addRule 18 = .ok (.if_icmp .eq 7, 3) := by decide +kernel
theorem dX6_addRule_21 : decode cX6_addRule 21 = .ok (.iconst 1, 1) := by decide +kernel
theorem dX6_addRule_22 : decode cX6_addRule 22 = .ok (.goto 4, 3) := by decide +kernel
theorem dX6_addRule_25 : decode cX6_addRule 25 = .ok (.iconst 0, 1) := by decide +kernel
theorem dX6_addRule_26 : decode cX6_addRule 26 = .ok (.istore 5, 2) := by decide +kernel
theorem dX6_addRule_28 : decode cX6_addRule 28 = .ok (.aload_n 0, 1) := by decide +kernel
theorem dX6_addRule_29 : decode cX6_addRule 29 = .ok (.iload 5, 2) := by decide +kernel
theorem dX6_addRule_31 : decode cX6_addRule 31 = .ok (.ifCond .ne 7, 3) := by decide +kernel
theorem dX6_addRule_34 : decode cX6_addRule 34 = .ok (.iconst 1, 1) := by decide +kernel
theorem dX6_addRule_35 : decode cX6_addRule 35 = .ok (.goto 31, 3) := by decide +kernel
theorem dX6_addRule_38 : decode cX6_addRule 38 = .ok (.aload_n 0, 1) := by decide +kernel
theorem dX6_addRule_39 : decode cX6_addRule 39 = .ok (.getfield 100, 3) := by decide +kernel
theorem dX6_addRule_42 : decode cX6_addRule 42 = .ok (.bipush 40, 2) := by decide +kernel
theorem dX6_addRule_44 : decode cX6_addRule 44 = .ok (.if_icmp .ne 7, 3) := by decide +kernel
theorem dX6_addRule_47 : decode cX6_addRule 47 = .ok (.iconst 2, 1) := by decide +kernel
theorem dX6_addRule_48 : decode cX6_addRule 48 = .ok (.goto 18, 3) := by decide +kernel
theorem dX6_addRule_51 : decode cX6_addRule 51 = .ok (.aload_n 0, 1) := by decide +kernel
theorem dX6_addRule_52 : decode cX6_addRule 52 = .ok (.iload 4, 2) := by decide +kernel
theorem dX6_addRule_54 : decode cX6_addRule 54 = .ok (.invokevirtual 110, 3) := by decide +kernel
theorem dX6_addRule_57 : decode cX6_addRule 57 = .ok (.iconst (-1), 1) := by decide +kernel
theorem dX6_addRule_58 : decode cX6_addRule 58 = .ok (.if_icmp .eq 7, 3) := by decide +kernel
theorem dX6_addRule_61 : decode cX6_addRule 61 = .ok (.iconst 3, 1) := by decide +kernel
theorem dX6_addRule_62 : decode cX6_addRule 62 = .ok (.goto 4, 3) := by decide +kernel
theorem dX6_addRule_65 : decode cX6_addRule 65 = .ok (.iconst 0, 1) := by decide +kernel
theorem dX6_addRule_66 : decode cX6_addRule 66 = .ok (.invokevirtual 84, 3) := by decide +kernel
theorem dX6_addRule_69 : decode cX6_addRule 69 = .ok (.ifCond .ne 5, 3) := by decide +kernel
theorem dX6_addRule_72 : decode cX6_addRule 72 = .ok (.iconst 0, 1) := by decide +kernel
theorem dX6_addRule_73 : decode cX6_addRule 73 = .ok (.ireturn, 1) := by decide +kernel
theorem dX6_addRule_74 : decode cX6_addRule 74 = .ok (.aload_n 0, 1) := by decide +kernel
theorem dX6_addRule_75 : decode cX6_addRule 75 = .ok (.invokevirtual 113, 3) := by decide +kernel
theorem dX6_addRule_78 : decode cX6_addRule 78 = .ok (.aload_n 0, 1) := by decide +kernel
theorem dX6_addRule_79 : decode cX6_addRule 79 = .ok (.getfield 100, 3) := by decide +kernel
theorem dX6_addRule_82 : decode cX6_addRule 82 = .ok (.istore 6, 2) := by decide +kernel
theorem dX6_addRule_84 : decode cX6_addRule 84 = .ok (.iload 6, 2) := by decide +kernel
theorem dX6_addRule_86 : decode cX6_addRule 86 = .ok (.ifCond .le 33, 3) := by decide +kernel
theorem dX6_addRule_89 : decode cX6_addRule 89 = .ok (.aload_n 0, 1) := by decide +kernel
theorem dX6_addRule_90 : decode cX6_addRule 90 = .ok (.getfield 13, 3) := by decide +kernel
theorem dX6_addRule_93 : decode cX6_addRule 93 = .ok (.iload 6, 2) := by decide +kernel
theorem dX6_addRule_95 : decode cX6_addRule 95 = .ok (.iconst 1, 1) := by decide +kernel
theorem dX6_addRule_96 : decode cX6_addRule 96 = .ok (.isub, 1) := by decide +kernel
theorem dX6_addRule_97 : decode cX6_addRule 97 = .ok (.iaload, 1) := by decide +kernel
theorem dX6_addRule_98 : decode cX6_addRule 98 = .ok (.iload 4, 2) := by decide +kernel
theorem dX6_addRule_100 : decode cX6_addRule 100 = .ok (.if_icmp .le 19, 3) := by decide +kernel
theorem dX6_addRule_103 : decode cX6_addRule 103 = .ok (.aload_n 0, 1) := by decide +kernel
theorem dX6_addRule_104 : decode cX6_addRule 104 = .ok (.iload 6, 2) := by decide +kernel
theorem dX6_addRule_106 : decode cX6_addRule 106 = .ok (.iconst 1, 1) := by decide +kernel
theorem dX6_addRule_107 : decode cX6_addRule 107 = .ok (.isub, 1) := by decide +kernel
theorem dX6_addRule_108 : decode cX6_addRule 108 = .ok (.iload 6, 2) := by decide +kernel
theorem dX6_addRule_110 : decode cX6_addRule 110 = .ok (.invokevirtual 116, 3) := by decide +kernel
theorem dX6_addRule_113 : decode cX6_addRule 113 = .ok (.iinc 6 (-1), 3) := by decide +kernel
theorem dX6_addRule_116 : decode cX6_addRule 116 = .ok (.goto (-32), 3) := by decide +kernel
theorem dX6_addRule_119 : decode cX6_addRule 119 = .ok (.aload_n 0, 1) := by decide +kernel
theorem dX6_addRule_120 : decode cX6_addRule 120 = .ok (.iload 6, 2) := by decide +kernel
theorem dX6_addRule_122 : decode cX6_addRule 122 = .ok (.iload 4, 2) := by decide +kernel
theorem dX6_addRule_124 : decode cX6_addRule 124 = .ok (.iload_n 1, 1) := by decide +kernel
theorem dX6_addRule_125 : decode cX6_addRule 125 = .ok (.iload_n 2, 1) := by decide +kernel
theorem dX6_addRule_126 : decode cX6_addRule 126 = .ok (.iload_n 3, 1) := by decide +kernel
theorem dX6_addRule_127 : decode cX6_addRule 127 = .ok (.invokevirtual 120, 3) := by decide +kernel
theorem dX6_addRule_130 : decode cX6_addRule 130 = .ok (.aload_n 0, 1) := by decide +kernel
theorem dX6_addRule_131 : decode cX6_addRule 131 = .ok (.dup, 1) := by decide +kernel
theorem dX6_addRule_132 : decode cX6_addRule 132 = .ok (.getfield 100, 3) := by decide +kernel
theorem dX6_addRule_135 : decode cX6_addRule 135 = .ok (.iconst 1, 1) := by decide +kernel
theorem dX6_addRule_136 : decode cX6_addRule 136 = .ok (.iadd, 1) := by decide +kernel
theorem dX6_addRule_137 : decode cX6_addRule 137 = .ok (.putfield 100, 3) := by decide +kernel
theorem dX6_addRule_140 : decode cX6_addRule 140 = .ok (.aload_n 0, 1) := by decide +kernel
theorem dX6_addRule_141 : decode cX6_addRule 141 = .ok (.iconst 0, 1) := by decide +kernel
theorem dX6_addRule_142 : decode cX6_addRule 142 = .ok (.putfield 81, 3) := by decide +kernel
theorem dX6_addRule_145 : decode cX6_addRule 145 = .ok (.aload_n 0, 1) := by decide +kernel
theorem dX6_addRule_146 : decode cX6_addRule 146 = .ok (.invokevirtual 124, 3) := by decide +kernel
theorem dX6_addRule_149 : decode cX6_addRule 149 = .ok (.istore 7, 2) := by decide +kernel
theorem dX6_addRule_151 : decode cX6_addRule 151 = .ok (.iload 6, 2) := by decide +kernel
theorem dX6_addRule_153 : decode cX6_addRule 153 = .ok (.ireturn, 1) := by decide +kernel
theorem dX6_mend_0 : decode cX6_mend 0 = .ok (.aload_n 0, 1) := by decide +kernel
theorem dX6_mend_1 : decode cX6_mend 1 = .ok (.invokevirtual 103, 3) := by decide +kernel
theorem dX6_mend_4 : decode cX6_mend 4 = .ok (.istore 4, 2) := by decide +kernel
theorem dX6_mend_6 : decode cX6_mend 6 = .ok (.iload 4, 2) := by decide +kernel
theorem dX6_mend_8 : decode cX6_mend 8 = .ok (.iconst (-1), 1) := by decide +kernel
theorem dX6_mend_9 : decode cX6_mend 9 = .ok (.if_icmp .ne 7, 3) := by decide +kernel
theorem dX6_mend_12 : decode cX6_mend 12 = .ok (.iconst (-1), 1) := by decide +kernel
theorem dX6_mend_13 : decode cX6_mend 13 = .ok (.goto 9, 3) := by decide +kernel
theorem dX6_mend_16 : decode cX6_mend 16 = .ok (.aload_n 0, 1) := by decide +kernel
theorem dX6_mend_17 : decode cX6_mend 17 = .ok (.iload 4, 2) := by decide +kernel
theorem dX6_mend_19 : decode cX6_mend 19 = .ok (.invokevirtual 110, 3) := by decide +kernel
theorem dX6_mend_22 : decode cX6_mend 22 = .ok (.istore 5, 2) := by decide +kernel
theorem dX6_mend_24 : decode cX6_mend 24 = .ok (.aload_n 0, 1) := by decide +kernel
theorem dX6_mend_25 : decode cX6_mend 25 = .ok (.iload_n 1, 1) := by decide +kernel
theorem dX6_mend_26 : decode cX6_mend 26 = .ok (.iload_n 2, 1) := by decide +kernel
theorem dX6_mend_27 : decode cX6_mend 27 = .ok (.iload_n 3, 1) := by decide +kernel
theorem dX6_mend_28 : decode cX6_mend 28 = .ok (.invokestatic 107, 3) := by decide +kernel
theorem dX6_mend_31 : decode cX6_mend 31 = .ok (.ifCond .ne 7, 3) := by decide +kernel
theorem dX6_mend_34 : decode cX6_mend 34 = .ok (.iconst 1, 1) := by decide +kernel
theorem dX6_mend_35 : decode cX6_mend 35 = .ok (.goto 14, 3) := by decide +kernel
theorem dX6_mend_38 : decode cX6_mend 38 = .ok (.iload 5, 2) := by decide +kernel
theorem dX6_mend_40 : decode cX6_mend 40 = .ok (.iconst (-1), 1) := by decide +kernel
theorem dX6_mend_41 : decode cX6_mend 41 = .ok (.if_icmp .ne 7, 3) := by decide +kernel
theorem dX6_mend_44 : decode cX6_mend 44 = .ok (.iconst 2, 1) := by decide +kernel
theorem dX6_mend_45 : decode cX6_mend 45 = .ok (.goto 4, 3) := by decide +kernel
theorem dX6_mend_48 : decode cX6_mend 48 = .ok (.iconst 0, 1) := by decide +kernel
theorem dX6_mend_49 : decode cX6_mend 49 = .ok (.invokevirtual 84, 3) := by decide +kernel
theorem dX6_mend_52 : decode cX6_mend 52 = .ok (.ifCond .ne 5, 3) := by decide +kernel
theorem dX6_mend_55 : decode cX6_mend 55 = .ok (.iconst 0, 1) := by decide +kernel
theorem dX6_mend_56 : decode cX6_mend 56 = .ok (.ireturn, 1) := by decide +kernel
theorem dX6_mend_57 : decode cX6_mend 57 = .ok (.aload_n 0, 1) := by decide +kernel
theorem dX6_mend_58 : decode cX6_mend 58 = .ok (.invokevirtual 113, 3) := by decide +kernel
theorem dX6_mend_61 : decode cX6_mend 61 = .ok (.aload_n 0, 1) := by decide +kernel
theorem dX6_mend_62 : decode cX6_mend 62 = .ok (.iload 5, 2) := by decide +kernel
theorem dX6_mend_64 : decode cX6_mend 64 = .ok (.iload 4, 2) := by decide +kernel
theorem dX6_mend_66 : decode cX6_mend 66 = .ok (.iload_n 1, 1) := by decide +kernel
theorem dX6_mend_67 : decode cX6_mend 67 = .ok (.iload_n 2, 1) := by decide +kernel
theorem dX6_mend_68 : decode cX6_mend 68 = .ok (.iload_n 3, 1) := by decide +kernel
theorem dX6_mend_69 : decode cX6_mend 69 = .ok (.invokevirtual 120, 3) := by decide +kernel
theorem dX6_mend_72 : decode cX6_mend 72 = .ok (.aload_n 0, 1) := by decide +kernel
theorem dX6_mend_73 : decode cX6_mend 73 = .ok (.iconst 0, 1) := by decide +kernel
theorem dX6_mend_74 : decode cX6_mend 74 = .ok (.putfield 81, 3) := by decide +kernel
theorem dX6_mend_77 : decode cX6_mend 77 = .ok (.aload_n 0, 1) := by decide +kernel
theorem dX6_mend_78 : decode cX6_mend 78 = .ok (.invokevirtual 124, 3) := by decide +kernel
theorem dX6_mend_81 : decode cX6_mend 81 = .ok (.ireturn, 1) := by decide +kernel
theorem dX6_removeRule_0 : decode cX6_removeRule 0 = .ok (.aload_n 0, 1) := by decide +kernel
theorem dX6_removeRule_1 : decode cX6_removeRule 1 = .ok (.iload_n 1, 1) := by decide +kernel
theorem dX6_removeRule_2 : decode cX6_removeRule 2 = .ok (.iconst 0, 1) := by decide +kernel
theorem dX6_removeRule_3 : decode cX6_removeRule 3 = .ok (.aload_n 0, 1) := by decide +kernel
theorem dX6_removeRule_4 : decode cX6_removeRule 4 = .ok (.getfield 100, 3) := by decide +kernel
theorem dX6_removeRule_7 : decode cX6_removeRule 7 = .ok (.iconst 1, 1) := by decide +kernel
theorem dX6_removeRule_8 : decode cX6_removeRule 8 = .ok (.isub, 1) := by decide +kernel
theorem dX6_removeRule_9 : decode cX6_removeRule 9 = .ok (.invokestatic 77, 3) := by decide +kernel
theorem dX6_removeRule_12 : decode cX6_removeRule 12 = .ok (.ifCond .eq 7, 3) := by decide +kernel
theorem dX6_removeRule_15 : decode cX6_removeRule 15 = .ok (.iconst 0, 1) := by decide +kernel
theorem dX6_removeRule_16 : decode cX6_removeRule 16 = .ok (.goto 4, 3) := by decide +kernel
theorem dX6_removeRule_19 : decode cX6_removeRule 19 = .ok (.iconst 1, 1) := by decide +kernel
theorem dX6_removeRule_20 : decode cX6_removeRule 20 = .ok (.invokevirtual 84, 3) := by decide +kernel
theorem dX6_removeRule_23 : decode cX6_removeRule 23 = .ok (.ifCond .ne 5, 3) := by decide +kernel
theorem dX6_removeRule_26 : decode cX6_removeRule 26 = .ok (.iconst 0, 1) := by decide +kernel
theorem dX6_removeRule_27 : decode cX6_removeRule 27 = .ok (.ireturn, 1) := by decide +kernel
theorem dX6_removeRule_28 : decode cX6_removeRule 28 = .ok (.aload_n 0, 1) := by decide +kernel
theorem dX6_removeRule_29 : decode cX6_removeRule 29 = .ok (.invokevirtual 113, 3) := by decide +kernel
theorem dX6_removeRule_32 : decode cX6_removeRule 32 = .ok (.iload_n 1, 1) := by decide +kernel
theorem dX6_removeRule_33 : decode cX6_removeRule 33 = .ok (.iconst 1, 1) := by decide +kernel
theorem dX6_removeRule_34 : decode cX6_removeRule 34 = .ok (.iadd, 1) := by decide +kernel
theorem dX6_removeRule_35 : decode cX6_removeRule 35 = .ok (.istore_n 2, 1) := by decide +kernel
theorem dX6_removeRule_36 : decode cX6_removeRule 36 = .ok (.iload_n 2, 1) := by decide +kernel
theorem dX6_removeRule_37 : decode cX6_removeRule 37 = .ok (.aload_n 0, 1) := by decide +kernel
theorem dX6_removeRule_38 : decode cX6_removeRule 38 = .ok (.getfield 100, 3) := by decide +kernel
theorem dX6_removeRule_41 : decode cX6_removeRule 41 = .ok (.if_icmp .ge 17, 3) := by decide +kernel
theorem dX6_removeRule_44 : decode cX6_removeRule 44 = .ok (.aload_n 0, 1) := by decide +kernel
theorem dX6_removeRule_45 : decode cX6_removeRule 45 = .ok (.iload_n 2, 1) := by decide +kernel
theorem dX6_removeRule_46 : decode cX6_removeRule 46 = .ok (.iload_n 2, 1) := by decide +kernel
theorem dX6_removeRule_47 : decode cX6_removeRule 47 = .ok (.iconst 1, 1) := by decide +kernel
theorem dX6_removeRule_48 : decode cX6_removeRule 48 = .ok (.isub, 1) := by decide +kernel
theorem dX6_removeRule_49 : decode cX6_removeRule 49 = .ok (.invokevirtual 116, 3) := by decide +kernel
theorem dX6_removeRule_52 : decode cX6_removeRule 52 = .ok (.iinc 2 1, 3) := by decide +kernel
theorem dX6_removeRule_55 : decode cX6_removeRule 55 = .ok (.goto (-19), 3) := by decide +kernel
theorem dX6_removeRule_58 : decode cX6_removeRule 58 = .ok (.aload_n 0, 1) := by decide +kernel
theorem dX6_removeRule_59 : decode cX6_removeRule 59 = .ok (.dup, 1) := by decide +kernel
theorem dX6_removeRule_60 : decode cX6_removeRule 60 = .ok (.getfield 100, 3) := by decide +kernel
theorem dX6_removeRule_63 : decode cX6_removeRule 63 = .ok (.iconst 1, 1) := by decide +kernel
theorem dX6_removeRule_64 : decode cX6_removeRule 64 = .ok (.isub, 1) := by decide +kernel
theorem dX6_removeRule_65 : decode cX6_removeRule 65 = .ok (.putfield 100, 3) := by decide +kernel
theorem dX6_removeRule_68 : decode cX6_removeRule 68 = .ok (.aload_n 0, 1) := by decide +kernel
theorem dX6_removeRule_69 : decode cX6_removeRule 69 = .ok (.invokevirtual 124, 3) := by decide +kernel
theorem dX6_removeRule_72 : decode cX6_removeRule 72 = .ok (.istore_n 2, 1) := by decide +kernel
theorem dX6_removeRule_73 : decode cX6_removeRule 73 = .ok (.aload_n 0, 1) := by decide +kernel
theorem dX6_removeRule_74 : decode cX6_removeRule 74 = .ok (.getfield 100, 3) := by decide +kernel
theorem dX6_removeRule_77 : decode cX6_removeRule 77 = .ok (.ireturn, 1) := by decide +kernel
theorem dX6_ruleAt_0 : decode cX6_ruleAt 0 = .ok (.iload_n 1, 1) := by decide +kernel
theorem dX6_ruleAt_1 : decode cX6_ruleAt 1 = .ok (.iconst 0, 1) := by decide +kernel
theorem dX6_ruleAt_2 : decode cX6_ruleAt 2 = .ok (.aload_n 0, 1) := by decide +kernel
theorem dX6_ruleAt_3 : decode cX6_ruleAt 3 = .ok (.getfield 100, 3) := by decide +kernel
theorem dX6_ruleAt_6 : decode cX6_ruleAt 6 = .ok (.iconst 1, 1) := by decide +kernel
theorem dX6_ruleAt_7 : decode cX6_ruleAt 7 = .ok (.isub, 1) := by decide +kernel
theorem dX6_ruleAt_8 : decode cX6_ruleAt 8 = .ok (.invokestatic 77, 3) := by decide +kernel
theorem dX6_ruleAt_11 : decode cX6_ruleAt 11 = .ok (.istore_n 3, 1) := by decide +kernel
theorem dX6_ruleAt_12 : decode cX6_ruleAt 12 = .ok (.iload_n 3, 1) := by decide +kernel
theorem dX6_ruleAt_13 : decode cX6_ruleAt 13 = .ok (.ifCond .eq 22, 3) := by decide +kernel
theorem dX6_ruleAt_16 : decode cX6_ruleAt 16 = .ok (.iload_n 2, 1) := by decide +kernel
theorem dX6_ruleAt_17 : decode cX6_ruleAt 17 = .ok (.iconst 0, 1) := by decide +kernel
theorem dX6_ruleAt_18 : decode cX6_ruleAt 18 = .ok (.aload_n 0, 1) := by decide +kernel
theorem dX6_ruleAt_19 : decode cX6_ruleAt 19 = .ok (.iload_n 1, 1) := by decide +kernel
theorem dX6_ruleAt_20 : decode cX6_ruleAt 20 = .ok (.invokevirtual 127, 3) := by decide +kernel
theorem dX6_ruleAt_23 : decode cX6_ruleAt 23 = .ok (.iconst 1, 1) := by decide +kernel
theorem dX6_ruleAt_24 : decode cX6_ruleAt 24 = .ok (.isub, 1) := by decide +kernel
theorem dX6_ruleAt_25 : decode cX6_ruleAt 25 = .ok (.invokestatic 77, 3) := by decide +kernel
theorem dX6_ruleAt_28 : decode cX6_ruleAt 28 = .ok (.ifCond .eq 7, 3) := by decide +kernel
theorem dX6_ruleAt_31 : decode cX6_ruleAt 31 = .ok (.iconst 1, 1) := by decide +kernel
theorem dX6_ruleAt_32 : decode cX6_ruleAt 32 = .ok (.goto 4, 3) := by decide +kernel
theorem dX6_ruleAt_35 : decode cX6_ruleAt 35 = .ok (.iconst 0, 1) := by decide +kernel
theorem dX6_ruleAt_36 : decode cX6_ruleAt 36 = .ok (.istore 4, 2) := by decide +kernel
theorem dX6_ruleAt_38 : decode cX6_ruleAt 38 = .ok (.aload_n 0, 1) := by decide +kernel
theorem dX6_ruleAt_39 : decode cX6_ruleAt 39 = .ok (.iload_n 3, 1) := by decide +kernel
theorem dX6_ruleAt_40 : decode cX6_ruleAt 40 = .ok (.ifCond .ne 7, 3) := by decide +kernel
theorem dX6_ruleAt_43 : decode cX6_ruleAt 43 = .ok (.iconst 1, 1) := by decide +kernel
theorem dX6_ruleAt_44 : decode cX6_ruleAt 44 = .ok (.goto 13, 3) := by decide +kernel
theorem dX6_ruleAt_47 : decode cX6_ruleAt 47 = .ok (.iload 4, 2) := by decide +kernel
theorem dX6_ruleAt_49 : decode cX6_ruleAt 49 = .ok (.ifCond .ne 7, 3) := by decide +kernel
theorem dX6_ruleAt_52 : decode cX6_ruleAt 52 = .ok (.iconst 2, 1) := by decide +kernel
theorem dX6_ruleAt_53 : decode cX6_ruleAt 53 = .ok (.goto 4, 3) := by decide +kernel
theorem dX6_ruleAt_56 : decode cX6_ruleAt 56 = .ok (.iconst 0, 1) := by decide +kernel
theorem dX6_ruleAt_57 : decode cX6_ruleAt 57 = .ok (.invokevirtual 84, 3) := by decide +kernel
theorem dX6_ruleAt_60 : decode cX6_ruleAt 60 = .ok (.ifCond .eq 18, 3) := by decide +kernel
theorem dX6_ruleAt_63 : decode cX6_ruleAt 63 = .ok (.bipush 97, 2) := by decide +kernel
theorem dX6_ruleAt_65 : decode cX6_ruleAt 65 = .ok (.aload_n 0, 1) := by decide +kernel
theorem dX6_ruleAt_66 : decode cX6_ruleAt 66 = .ok (.iload_n 1, 1) := by decide +kernel
theorem dX6_ruleAt_67 : decode cX6_ruleAt 67 = .ok (.iload_n 2, 1) := by decide +kernel
theorem dX6_ruleAt_68 : decode cX6_ruleAt 68 = .ok (.invokevirtual 96, 3) := by decide +kernel
theorem dX6_ruleAt_71 : decode cX6_ruleAt 71 = .ok (.iadd, 1) := by decide +kernel
theorem dX6_ruleAt_72 : decode cX6_ruleAt 72 = .ok (.iconst 1, 1) := by decide +kernel
theorem dX6_ruleAt_73 : decode cX6_ruleAt 73 = .ok (.isub, 1) := by decide +kernel
theorem dX6_ruleAt_74 : decode cX6_ruleAt 74 = .ok (.i2c, 1) := by decide +kernel
theorem dX6_ruleAt_75 : decode cX6_ruleAt 75 = .ok (.goto 4, 3) := by decide +kernel
theorem dX6_ruleAt_78 : decode cX6_ruleAt 78 = .ok (.iconst 0, 1) := by decide +kernel
theorem dX6_ruleAt_79 : decode cX6_ruleAt 79 = .ok (.ireturn, 1) := by decide +kernel
theorem dX6_isThis_0 : decode cX6_isThis 0 = .ok (.aload_n 0, 1) := by decide +kernel
theorem dX6_isThis_1 : decode cX6_isThis 1 = .ok (.getfield 28, 3) := by decide +kernel
theorem dX6_isThis_4 : decode cX6_isThis 4 = .ok (.iload_n 1, 1) := by decide +kernel
theorem dX6_isThis_5 : decode cX6_isThis 5 = .ok (.iaload, 1) := by decide +kernel
theorem dX6_isThis_6 : decode cX6_isThis 6 = .ok (.iload_n 3, 1) := by decide +kernel
theorem dX6_isThis_7 : decode cX6_isThis 7 = .ok (.if_icmp .ne 7, 3) := by decide +kernel
theorem dX6_isThis_10 : decode cX6_isThis 10 = .ok (.iconst 1, 1) := by decide +kernel
theorem dX6_isThis_11 : decode cX6_isThis 11 = .ok (.goto 4, 3) := by decide +kernel
theorem dX6_isThis_14 : decode cX6_isThis 14 = .ok (.iconst 0, 1) := by decide +kernel
theorem dX6_isThis_15 : decode cX6_isThis 15 = .ok (.istore 4, 2) := by decide +kernel
theorem dX6_isThis_17 : decode cX6_isThis 17 = .ok (.iconst 0, 1) := by decide +kernel
theorem dX6_isThis_18 : decode cX6_isThis 18 = .ok (.istore 5, 2) := by decide +kernel
theorem dX6_isThis_20 : decode cX6_isThis 20 = .ok (.iload 5, 2) := by decide +kernel
theorem dX6_isThis_22 : decode cX6_isThis 22 = .ok (.iload_n 3, 1) := by decide +kernel
theorem dX6_isThis_23 : decode cX6_isThis 23 = .ok (.if_icmp .ge 45, 3) := by decide +kernel
theorem dX6_isThis_26 : decode cX6_isThis 26 = .ok (.iload 4, 2) := by decide +kernel
theorem dX6_isThis_28 : decode cX6_isThis 28 = .ok (.ifCond .eq 40, 3) := by decide +kernel
theorem dX6_isThis_31 : decode cX6_isThis 31 = .ok (.aload_n 0, 1) := by decide +kernel
theorem dX6_isThis_32 : decode cX6_isThis 32 = .ok (.getfield 25, 3) := by decide +kernel
theorem dX6_isThis_35 : decode cX6_isThis 35 = .ok (.bipush 80, 2) := by decide +kernel
theorem dX6_isThis_37 : decode cX6_isThis 37 = .ok (.iload_n 1, 1) := by decide +kernel
theorem dX6_isThis_38 : decode cX6_isThis 38 = .ok (.imul, 1) := by decide +kernel
theorem dX6_isThis_39 : decode cX6_isThis 39 = .ok (.iload 5, 2) := by decide +kernel
theorem dX6_isThis_41 : decode cX6_isThis 41 = .ok (.iadd, 1) := by decide +kernel
theorem dX6_isThis_42 : decode cX6_isThis 42 = .ok (.iaload, 1) := by decide +kernel
theorem dX6_isThis_43 : decode cX6_isThis 43 = .ok (.aload_n 0, 1) := by decide +kernel
theorem dX6_isThis_44 : decode cX6_isThis 44 = .ok (.getfield 31, 3) := by decide +kernel
theorem dX6_isThis_47 : decode cX6_isThis 47 = .ok (.iload_n 2, 1) := by decide +kernel
theorem dX6_isThis_48 : decode cX6_isThis 48 = .ok (.iload 5, 2) := by decide +kernel
theorem dX6_isThis_50 : decode cX6_isThis 50 = .ok (.iadd, 1) := by decide +kernel
theorem dX6_isThis_51 : decode cX6_isThis 51 = .ok (.iaload, 1) := by decide +kernel
theorem dX6_isThis_52 : decode cX6_isThis 52 = .ok (.if_icmp .ne 7, 3) := by decide +kernel
theorem dX6_isThis_55 : decode cX6_isThis 55 = .ok (.iconst 1, 1) := by decide +kernel
theorem dX6_isThis_56 : decode cX6_isThis 56 = .ok (.goto 4, 3) := by decide +kernel
theorem dX6_isThis_59 : decode cX6_isThis 59 = .ok (.iconst 0, 1) := by decide +kernel
theorem dX6_isThis_60 : decode cX6_isThis 60 = .ok (.istore 4, 2) := by decide +kernel
theorem dX6_isThis_62 : decode cX6_isThis 62 = .ok (.iinc 5 1, 3) := by decide +kernel
theorem dX6_isThis_65 : decode cX6_isThis 65 = .ok (.goto (-45), 3) := by decide +kernel
theorem dX6_isThis_68 : decode cX6_isThis 68 = .ok (.iload 4, 2) := by decide +kernel
theorem dX6_isThis_70 : decode cX6_isThis 70 = .ok (.ireturn, 1) := by decide +kernel
theorem dX6_isException_0 : decode cX6_isException 0 = .ok (.iconst 0, 1) := by decide +kernel
theorem dX6_isException_1 : decode cX6_isException 1 = .ok (.istore_n 3, 1) := by decide +kernel
theorem dX6_isException_2 : decode cX6_isException 2 = .ok (.iconst 0, 1) := by decide +kernel
theorem dX6_isException_3 : decode cX6_isException 3 = .ok (.istore 4, 2) := by decide +kernel
theorem dX6_isException_5 : decode cX6_isException 5 = .ok (.iload 4, 2) := by decide +kernel
theorem dX6_isException_7 : decode cX6_isException 7 = .ok (.aload_n 0, 1) := by decide +kernel
theorem dX6_isException_8 : decode cX6_isException 8 = .ok (.getfield 130, 3) := by decide +kernel
theorem dX6_isException_11 : decode cX6_isException 11 = .ok (.if_icmp .ge 30, 3) := by decide +kernel
theorem dX6_isException_14 : decode cX6_isException 14 = .ok (.iload_n 3, 1) := by decide +kernel
theorem dX6_isException_15 : decode cX6_isException 15 = .ok (.ifCond .ne 14, 3) := by decide +kernel
theorem dX6_isException_18 : decode cX6_isException 18 = .ok (.aload_n 0, 1) := by decide +kernel
theorem dX6_isException_19 : decode cX6_isException 19 = .ok (.iload 4, 2) := by decide +kernel
theorem dX6_isException_21 : decode cX6_isException 21 = .ok (.iload_n 1, 1) := by decide +kernel
theorem dX6_isException_22 : decode cX6_isException 22 = .ok (.iload_n 2, 1) := by decide +kernel
theorem dX6_isException_23 : decode cX6_isException 23 = .ok (.invokevirtual 133, 3) := by decide +kernel
theorem dX6_isException_26 : decode cX6_isException 26 = .ok (.ifCond .eq 7, 3) := by decide +kernel
theorem dX6_isException_29 : decode cX6_isException 29 = .ok (.iconst 1, 1) := by decide +kernel
theorem dX6_isException_30 : decode cX6_isException 30 = .ok (.goto 4, 3) := by decide +kernel
theorem dX6_isException_33 : decode cX6_isException 33 = .ok (.iconst 0, 1) := by decide +kernel
theorem dX6_isException_34 : decode cX6_isException 34 = .ok (.istore_n 3, 1) := by decide +kernel
theorem dX6_isException_35 : decode cX6_isException 35 = .ok (.iinc 4 1, 3) := by decide +kernel
theorem dX6_isException_38 : decode cX6_isException 38 = .ok (.goto (-33), 3) := by decide +kernel
theorem dX6_isException_41 : decode cX6_isException 41 = .ok (.iload_n 3, 1) := by decide +kernel
theorem dX6_isException_42 : decode cX6_isException 42 = .ok (.ireturn, 1) := by decide +kernel
theorem dX6_exceptionInBuffer_0 : decode cX6_exceptionInBuffer 0 = .ok (.iconst (-1), 1) := by decide +kernel
theorem dX6_exceptionInBuffer_1 : decode cX6_exceptionInBuffer 1 = .ok (.istore_n 1, 1) := by decide +kernel
theorem dX6_exceptionInBuffer_2 : decode cX6_exceptionInBuffer 2 = .ok (.iconst 0, 1) := by decide +kernel
theorem dX6_exceptionInBuffer_3 : decode cX6_exceptionInBuffer 3 = .ok (.istore_n 2, 1) := by decide +kernel
theorem dX6_exceptionInBuffer_4 : decode cX6_exceptionInBuffer 4 = .ok (.iload_n 2, 1) := by decide +kernel
theorem dX6_exceptionInBuffer_5 : decode cX6_exceptionInBuffer 5 = .ok (.aload_n 0, 1) := by decide +kernel
theorem dX6_exceptionInBuffer_6 : decode cX6_exceptionInBuffer 6 = .ok (.getfield 130, 3) := by decide +kernel
theorem dX6_exceptionInBuffer_9 : decode cX6_exceptionInBuffer 9 = .ok (.if_icmp .ge 88, 3) := by decide +kernel
theorem dX6_exceptionInBuffer_12 : decode cX6_exceptionInBuffer 12 = .ok (.aload_n 0, 1) := by decide +kernel
theorem dX6_exceptionInBuffer_13 : decode cX6_exceptionInBuffer 13 = .ok (.getfield 28, 3) := by decide +kernel
theorem dX6_exceptionInBuffer_16 : decode cX6_exceptionInBuffer 16 = .ok (.iload_n 2, 1) := by decide +kernel
theorem dX6_exceptionInBuffer_17 : decode cX6_exceptionInBuffer 17 = .ok (.iaload, 1) := by decide +kernel
theorem dX6_exceptionInBuffer_18 : decode cX6_exceptionInBuffer 18 = .ok (.aload_n 0, 1) := by decide +kernel
theorem dX6_exceptionInBuffer_19 : decode cX6_exceptionInBuffer 19 = .ok (.getfield 81, 3) := by decide +kernel
theorem dX6_exceptionInBuffer_22 : decode cX6_exceptionInBuffer 22 = .ok (.if_icmp .ne 7, 3) := by decide +kernel
theorem dX6_exceptionInBuffer_25 : decode cX6_exceptionInBuffer 25 = .ok (.iconst 1, 1) := by decide +kernel
theorem dX6_exceptionInBuffer_26 : decode cX6_exceptionInBuffer 26 = .ok (.goto 4, 3) := by decide +kernel
theorem dX6_exceptionInBuffer_29 : decode cX6_exceptionInBuffer 29 = .ok (.iconst 0, 1) := by decide +kernel
theorem dX6_exceptionInBuffer_30 : decode cX6_exceptionInBuffer 30 = .ok (.istore_n 3, 1) := by decide +kernel
theorem dX6_exceptionInBuffer_31 : decode cX6_exceptionInBuffer 31 = .ok (.iconst 0, 1) := by decide +kernel
theorem dX6_exceptionInBuffer_32 : decode cX6_exceptionInBuffer 32 = .ok (.istore 4, 2) := by decide +kernel
theorem dX6_exceptionInBuffer_34 : decode cX6_exceptionInBuffer 34 = .ok (.iload 4, 2) := by decide +kernel
theorem dX6_exceptionInBuffer_36 : decode cX6_exceptionInBuffer 36 = .ok (.aload_n 0, 1) := by decide +kernel
theorem dX6_exceptionInBuffer_37 : decode cX6_exceptionInBuffer 37 = .ok (.getfield 81, 3) := by decide +kernel
theorem dX6_exceptionInBuffer_40 : decode cX6_exceptionInBuffer 40 = .ok (.if_icmp .ge 41, 3) := by decide +kernel
theorem dX6_exceptionInBuffer_43 : decode cX6_exceptionInBuffer 43 = .ok (.iload_n 3, 1) := by decide +kernel
theorem dX6_exceptionInBuffer_44 : decode cX6_exceptionInBuffer 44 = .ok (.ifCond .eq 37, 3) := by decide +kernel
theorem dX6_exceptionInBuffer_47 : decode cX6_exceptionInBuffer 47 = .ok (.aload_n 0, 1) := by decide +kernel
theorem dX6_exceptionInBuffer_48 : decode cX6_exceptionInBuffer 48 = .ok (.getfield 25, 3) := by decide +kernel
theorem dX6_exceptionInBuffer_51 : decode cX6_exceptionInBuffer 51 = .ok (.bipush 80, 2) := by decide +kernel
theorem dX6_exceptionInBuffer_53 : decode cX6_exceptionInBuffer 53 = .ok (.iload_n 2, 1) := by decide +kernel
theorem dX6_exceptionInBuffer_54 : decode cX6_exceptionInBuffer 54 = .ok (.imul, 1) := by decide +kernel
theorem dX6_exceptionInBuffer_55 : decode cX6_exceptionInBuffer 55 = .ok (.iload 4, 2) := by decide +kernel
theorem dX6_exceptionInBuffer_57 : decode cX6_exceptionInBuffer 57 = .ok (.iadd, 1) := by decide +kernel
theorem dX6_exceptionInBuffer_58 : decode cX6_exceptionInBuffer 58 = .ok (.iaload, 1) := by decide +kernel
theorem dX6_exceptionInBuffer_59 : decode cX6_exceptionInBuffer 59 = .ok (.aload_n 0, 1) := by decide +kernel
theorem dX6_exceptionInBuffer_60 : decode cX6_exceptionInBuffer 60 = .ok (.getfield 7, 3) := by decide +kernel
theorem dX6_exceptionInBuffer_63 : decode cX6_exceptionInBuffer 63 = .ok (.iload 4, 2) := by decide +kernel
theorem dX6_exceptionInBuffer_65 : decode cX6_exceptionInBuffer 65 = .ok (.iaload, 1) := by decide +kernel
theorem dX6_exceptionInBuffer_66 : decode cX6_exceptionInBuffer 66 = .ok (.if_icmp .ne 7, 3) := by decide +kernel
theorem dX6_exceptionInBuffer_69 : decode cX6_exceptionInBuffer 69 = .ok (.iconst 1, 1) := by decide +kernel
theorem dX6_exceptionInBuffer_70 : decode cX6_exceptionInBuffer 70 = .ok (.goto 4, 3) := by decide +kernel
theorem dX6_exceptionInBuffer_73 : decode cX6_exceptionInBuffer 73 = .ok (.iconst 0, 1) := by decide +kernel
theorem dX6_exceptionInBuffer_74 : decode cX6_exceptionInBuffer 74 = .ok (.istore_n 3, 1) := by decide +kernel
theorem dX6_exceptionInBuffer_75 : decode cX6_exceptionInBuffer 75 = .ok (.iinc 4 1, 3) := by decide +kernel
theorem dX6_exceptionInBuffer_78 : decode cX6_exceptionInBuffer 78 = .ok (.goto (-44), 3) := by decide +kernel
theorem dX6_exceptionInBuffer_81 : decode cX6_exceptionInBuffer 81 = .ok (.iload_n 3, 1) := by decide +kernel
theorem dX6_exceptionInBuffer_82 : decode cX6_exceptionInBuffer 82 = .ok (.ifCond .eq 7, 3) := by decide +kernel
theorem dX6_exceptionInBuffer_85 : decode cX6_exceptionInBuffer 85 = .ok (.iload_n 2, 1) := by decide +kernel
theorem dX6_exceptionInBuffer_86 : decode cX6_exceptionInBuffer 86 = .ok (.goto 4, 3) := by decide +kernel
theorem dX6_exceptionInBuffer_89 : decode cX6_exceptionInBuffer 89 = .ok (.iload_n 1, 1) := by decide +kernel
theorem dX6_exceptionInBuffer_90 : decode cX6_exceptionInBuffer 90 = .ok (.istore_n 1, 1) := by decide +kernel
theorem dX6_exceptionInBuffer_91 : decode cX6_exceptionInBuffer 91 = .ok (.iinc 2 1, 3) := by decide +kernel
theorem dX6_exceptionInBuffer_94 : decode cX6_exceptionInBuffer 94 = .ok (.goto (-90), 3) := by decide +kernel
theorem dX6_exceptionInBuffer_97 : decode cX6_exceptionInBuffer 97 = .ok (.iload_n 1, 1) := by decide +kernel
theorem dX6_exceptionInBuffer_98 : decode cX6_exceptionInBuffer 98 = .ok (.ireturn, 1) := by decide +kernel
theorem dX6_turnException_0 : decode cX6_turnException 0 = .ok (.aload_n 0, 1) := by decide +kernel
theorem dX6_turnException_1 : decode cX6_turnException 1 = .ok (.getfield 81, 3) := by decide +kernel
theorem dX6_turnException_4 : decode cX6_turnException 4 = .ok (.ifCond .le 14, 3) := by decide +kernel
theorem dX6_turnException_7 : decode cX6_turnException 7 = .ok (.aload_n 0, 1) := by decide +kernel
theorem dX6_turnException_8 : decode cX6_turnException 8 = .ok (.invokevirtual 88, 3) := by decide +kernel
theorem dX6_turnException_11 : decode cX6_turnException 11 = .ok (.ifCond .ne 7, 3) := by decide +kernel
theorem dX6_turnException_14 : decode cX6_turnException 14 = .ok (.iconst 1, 1) := by decide +kernel
theorem dX6_turnException_15 : decode cX6_turnException 15 = .ok (.goto 4, 3) := by decide +kernel
theorem dX6_turnException_18 : decode cX6_turnException 18 = .ok (.iconst 0, 1) := by decide +kernel
theorem dX6_turnException_19 : decode cX6_turnException 19 = .ok (.istore_n 1, 1) := by decide +kernel
theorem dX6_turnException_20 : decode cX6_turnException 20 = .ok (.iload_n 1, 1) := by decide +kernel
theorem dX6_turnException_21 : decode cX6_turnException 21 = .ok (.ifCond .eq 10, 3) := by decide +kernel
theorem dX6_turnException_24 : decode cX6_turnException 24 = .ok (.aload_n 0, 1) := by decide +kernel
theorem dX6_turnException_25 : decode cX6_turnException 25 = .ok (.invokevirtual 136, 3) := by decide +kernel
theorem dX6_turnException_28 : decode cX6_turnException 28 = .ok (.goto 4, 3) := by decide +kernel
theorem dX6_turnException_31 : decode cX6_turnException 31 = .ok (.iconst (-1), 1) := by decide +kernel
theorem dX6_turnException_32 : decode cX6_turnException 32 = .ok (.istore_n 2, 1) := by decide +kernel
theorem dX6_turnException_33 : decode cX6_turnException 33 = .ok (.aload_n 0, 1) := by decide +kernel
theorem dX6_turnException_34 : decode cX6_turnException 34 = .ok (.iload_n 1, 1) := by decide +kernel
theorem dX6_turnException_35 : decode cX6_turnException 35 = .ok (.ifCond .ne 7, 3) := by decide +kernel
theorem dX6_turnException_38 : decode cX6_turnException 38 = .ok (.iconst 1, 1) := by decide +kernel
theorem dX6_turnException_39 : decode cX6_turnException 39 = .ok (.goto 22, 3) := by decide +kernel
theorem dX6_turnException_42 : decode cX6_turnException 42 = .ok (.iload_n 2, 1) := by decide +kernel
theorem dX6_turnException_43 : decode cX6_turnException 43 = .ok (.iconst (-1), 1) := by decide +kernel
theorem dX6_turnException_44 : decode cX6_turnException 44 = .ok (.if_icmp .ne 16, 3) := by decide +kernel
theorem dX6_turnException_47 : decode cX6_turnException 47 = .ok (.aload_n 0, 1) := by decide +kernel
theorem dX6_turnException_48 : decode cX6_turnException 48 = .ok (.getfield 130, 3) := by decide +kernel
theorem dX6_turnException_51 : decode cX6_turnException 51 = .ok (.bipush 20, 2) := by decide +kernel
theorem dX6_turnException_53 : decode cX6_turnException 53 = .ok (.if_icmp .ne 7, 3) := by decide +kernel
theorem dX6_turnException_56 : decode cX6_turnException 56 = .ok (.iconst 2, 1) := by decide +kernel
theorem dX6_turnException_57 : decode cX6_turnException 57 = .ok (.goto 4, 3) := by decide +kernel
theorem dX6_turnException_60 : decode cX6_turnException 60 = .ok (.iconst 0, 1) := by decide +kernel
theorem dX6_turnException_61 : decode cX6_turnException 61 = .ok (.invokevirtual 84, 3) := by decide +kernel
theorem dX6_turnException_64 : decode cX6_turnException 64 = .ok (.ifCond .ne 5, 3) := by decide +kernel
theorem dX6_turnException_67 : decode cX6_turnException 67 = .ok (.iconst 0, 1) := by decide +kernel
theorem dX6_turnException_68 : decode cX6_turnException 68 = .ok (.ireturn, 1) := by decide +kernel
theorem dX6_turnException_69 : decode cX6_turnException 69 = .ok (.aload_n 0, 1) := by decide +kernel
theorem dX6_turnException_70 : decode cX6_turnException 70 = .ok (.invokevirtual 113, 3) := by decide +kernel
theorem dX6_turnException_73 : decode cX6_turnException 73 = .ok (.iload_n 2, 1) := by decide +kernel
theorem dX6_turnException_74 : decode cX6_turnException 74 = .ok (.iconst (-1), 1) := by decide +kernel
theorem dX6_turnException_75 : decode cX6_turnException 75 = .ok (.if_icmp .ne 65, 3) := by decide +kernel
theorem dX6_turnException_78 : decode cX6_turnException 78 = .ok (.iconst 0, 1) := by decide +kernel
theorem dX6_turnException_79 : decode cX6_turnException 79 = .ok (.istore_n 3, 1) := by decide +kernel
theorem dX6_turnException_80 : decode cX6_turnException 80 = .ok (.iload_n 3, 1) := by decide +kernel
theorem dX6_turnException_81 : decode cX6_turnException 81 = .ok (.aload_n 0, 1) := by decide +kernel
theorem dX6_turnException_82 : decode cX6_turnException 82 = .ok (.getfield 81, 3) := by decide +kernel
theorem dX6_turnException_85 : decode cX6_turnException 85 = .ok (.if_icmp .ge 29, 3) := by decide +kernel
theorem dX6_turnException_88 : decode cX6_turnException 88 = .ok (.aload_n 0, 1) := by decide +kernel
theorem dX6_turnException_89 : decode cX6_turnException 89 = .ok (.getfield 25, 3) := by decide +kernel
theorem dX6_turnException_92 : decode cX6_turnException 92 = .ok (.bipush 80, 2) := by decide +kernel
theorem dX6_turnException_94 : decode cX6_turnException 94 = .ok (.aload_n 0, 1) := by decide +kernel
theorem dX6_turnException_95 : decode cX6_turnException 95 = .ok (.getfield 130, 3) := by decide +kernel
theorem dX6_turnException_98 : decode cX6_turnException 98 = .ok (.imul, 1) := by decide +kernel
theorem dX6_turnException_99 : decode cX6_turnException 99 = .ok (.iload_n 3, 1) := by decide +kernel
theorem dX6_turnException_100 : decode cX6_turnException 100 = .ok (.iadd, 1) := by decide +kernel
theorem dX6_turnException_101 : decode cX6_turnException 101 = .ok (.aload_n 0, 1) := by decide +kernel
theorem dX6_turnException_102 : decode cX6_turnException 102 = .ok (.getfield 7, 3) := by decide +kernel
theorem dX6_turnException_105 : decode cX6_turnException 105 = .ok (.iload_n 3, 1) := by decide +kernel
theorem dX6_turnException_106 : decode cX6_turnException 106 = .ok (.iaload, 1) := by decide +kernel
theorem dX6_turnException_107 : decode cX6_turnException 107 = .ok (.iastore, 1) := by decide +kernel
theorem dX6_turnException_108 : decode cX6_turnException 108 = .ok (.iinc 3 1, 3) := by decide +kernel
theorem dX6_turnException_111 : decode cX6_turnException 111 = .ok (.goto (-31), 3) := by decide +kernel
theorem dX6_turnException_114 : decode cX6_turnException 114 = .ok (.aload_n 0, 1) := by decide +kernel
theorem dX6_turnException_115 : decode cX6_turnException 115 = .ok (.getfield 28, 3) := by decide +kernel
theorem dX6_turnException_118 : decode cX6_turnException 118 = .ok (.aload_n 0, 1) := by decide +kernel
theorem dX6_turnException_119 : decode cX6_turnException 119 = .ok (.getfield 130, 3) := by decide +kernel
theorem dX6_turnException_122 : decode cX6_turnException 122 = .ok (.aload_n 0, 1) := by decide +kernel
theorem dX6_turnException_123 : decode cX6_turnException 123 = .ok (.getfield 81, 3) := by decide +kernel
theorem dX6_turnException_126 : decode cX6_turnException 126 = .ok (.iastore, 1) := by decide +kernel
theorem dX6_turnException_127 : decode cX6_turnException 127 = .ok (.aload_n 0, 1) := by decide +kernel
theorem dX6_turnException_128 : decode cX6_turnException 128 = .ok (.dup, 1) := by decide +kernel
theorem dX6_turnException_129 : decode cX6_turnException 129 = .ok (.getfield 130, 3) := by decide +kernel
theorem dX6_turnException_132 : decode cX6_turnException 132 = .ok (.iconst 1, 1) := by decide +kernel
theorem dX6_turnException_133 : decode cX6_turnException 133 = .ok (.iadd, 1) := by decide +kernel
theorem dX6_turnException_134 : decode cX6_turnException 134 = .ok (.putfield 130, 3) := by decide +kernel
theorem dX6_turnException_137 : decode cX6_turnException 137 = .ok (.goto 67, 3) := by decide +kernel
theorem dX6_turnException_140 : decode cX6_turnException 140 = .ok (.aload_n 0, 1) := by decide +kernel
theorem dX6_turnException_141 : decode cX6_turnException 141 = .ok (.dup, 1) := by decide +kernel
theorem dX6_turnException_142 : decode cX6_turnException 142 = .ok (.getfield 130, 3) := by decide +kernel
theorem dX6_turnException_145 : decode cX6_turnException 145 = .ok (.iconst 1, 1) := by decide +kernel
theorem dX6_turnException_146 : decode cX6_turnException 146 = .ok (.isub, 1) := by decide +kernel
theorem dX6_turnException_147 : decode cX6_turnException 147 = .ok (.putfield 130, 3) := by decide +kernel
theorem dX6_turnException_150 : decode cX6_turnException 150 = .ok (.iconst 0, 1) := by decide +kernel
theorem dX6_turnException_151 : decode cX6_turnException 151 = .ok (.istore_n 3, 1) := by decide +kernel
theorem dX6_turnException_152 : decode cX6_turnException 152 = .ok (.iload_n 3, 1) := by decide +kernel
theorem dX6_turnException_153 : decode cX6_turnException 153 = .ok (.bipush 80, 2) := by decide +kernel
theorem dX6_turnException_155 : decode cX6_turnException 155 = .ok (.if_icmp .ge 34, 3) := by decide +kernel
theorem dX6_turnException_158 : decode cX6_turnException 158 = .ok (.aload_n 0, 1) := by decide +kernel
theorem dX6_turnException_159 : decode cX6_turnException 159 = .ok (.getfield 25, 3) := by decide +kernel
theorem dX6_turnException_162 : decode cX6_turnException 162 = .ok (.bipush 80, 2) := by decide +kernel
theorem dX6_turnException_164 : decode cX6_turnException 164 = .ok (.iload_n 2, 1) := by decide +kernel
theorem dX6_turnException_165 : decode cX6_turnException 165 = .ok (.imul, 1) := by decide +kernel
theorem dX6_turnException_166 : decode cX6_turnException 166 = .ok (.iload_n 3, 1) := by decide +kernel
theorem dX6_turnException_167 : decode cX6_turnException 167 = .ok (.iadd, 1) := by decide +kernel
theorem dX6_turnException_168 : decode cX6_turnException 168 = .ok (.aload_n 0, 1) := by decide +kernel
theorem dX6_turnException_169 : decode cX6_turnException 169 = .ok (.getfield 25, 3) := by decide +kernel
theorem dX6_turnException_172 : decode cX6_turnException 172 = .ok (.bipush 80, 2) := by decide +kernel
theorem dX6_turnException_174 : decode cX6_turnException 174 = .ok (.aload_n 0, 1) := by decide +kernel
theorem dX6_turnException_175 : decode cX6_turnException 175 = .ok (.getfield 130, 3) := by decide +kernel
theorem dX6_turnException_178 : decode cX6_turnException 178 = .ok (.imul, 1) := by decide +kernel
theorem dX6_turnException_179 : decode cX6_turnException 179 = .ok (.iload_n 3, 1) := by decide +kernel
theorem dX6_turnException_180 : decode cX6_turnException 180 = .ok (.iadd, 1) := by decide +kernel
theorem dX6_turnException_181 : decode cX6_turnException 181 = .ok (.iaload, 1) := by decide +kernel
theorem dX6_turnException_182 : decode cX6_turnException 182 = .ok (.iastore, 1) := by decide +kernel
theorem dX6_turnException_183 : decode cX6_turnException 183 = .ok (.iinc 3 1, 3) := by decide +kernel
theorem dX6_turnException_186 : decode cX6_turnException 186 = .ok (.goto (-34), 3) := by decide +kernel
theorem dX6_turnException_189 : decode cX6_turnException 189 = .ok (.aload_n 0, 1) := by decide +kernel
theorem dX6_turnException_190 : decode cX6_turnException 190 = .ok (.getfield 28, 3) := by decide +kernel
theorem dX6_turnException_193 : decode cX6_turnException 193 = .ok (.iload_n 2, 1) := by decide +kernel
theorem dX6_turnException_194 : decode cX6_turnException 194 = .ok (.aload_n 0, 1) := by decide +kernel
theorem dX6_turnException_195 : decode cX6_turnException 195 = .ok (.getfield 28, 3) := by decide +kernel
theorem dX6_turnException_198 : decode cX6_turnException 198 = .ok (.aload_n 0, 1) := by decide +kernel
theorem dX6_turnException_199 : decode cX6_turnException 199 = .ok (.getfield 130, 3) := by decide +kernel
theorem dX6_turnException_202 : decode cX6_turnException 202 = .ok (.iaload, 1) := by decide +kernel
theorem dX6_turnException_203 : decode cX6_turnException 203 = .ok (.iastore, 1) := by decide +kernel
theorem dX6_turnException_204 : decode cX6_turnException 204 = .ok (.aload_n 0, 1) := by decide +kernel
theorem dX6_turnException_205 : decode cX6_turnException 205 = .ok (.iconst 0, 1) := by decide +kernel
theorem dX6_turnException_206 : decode cX6_turnException 206 = .ok (.putfield 81, 3) := by decide +kernel
theorem dX6_turnException_209 : decode cX6_turnException 209 = .ok (.aload_n 0, 1) := by decide +kernel
theorem dX6_turnException_210 : decode cX6_turnException 210 = .ok (.invokevirtual 124, 3) := by decide +kernel
theorem dX6_turnException_213 : decode cX6_turnException 213 = .ok (.istore_n 3, 1) := by decide +kernel
theorem dX6_turnException_214 : decode cX6_turnException 214 = .ok (.iload_n 2, 1) := by decide +kernel
theorem dX6_turnException_215 : decode cX6_turnException 215 = .ok (.iconst (-1), 1) := by decide +kernel
theorem dX6_turnException_216 : decode cX6_turnException 216 = .ok (.if_icmp .ne 7, 3) := by decide +kernel
theorem dX6_turnException_219 : decode cX6_turnException 219 = .ok (.iconst 1, 1) := by decide +kernel
theorem dX6_turnException_220 : decode cX6_turnException 220 = .ok (.goto 4, 3) := by decide +kernel
theorem dX6_turnException_223 : decode cX6_turnException 223 = .ok (.iconst 0, 1) := by decide +kernel
theorem dX6_turnException_224 : decode cX6_turnException 224 = .ok (.ireturn, 1) := by decide +kernel
theorem dX6_isBegin_0 : decode cX6_isBegin 0 = .ok (.bipush 80, 2) := by decide +kernel
theorem dX6_isBegin_2 : decode cX6_isBegin 2 = .ok (.iload_n 1, 1) := by decide +kernel
theorem dX6_isBegin_3 : decode cX6_isBegin 3 = .ok (.imul, 1) := by decide +kernel
theorem dX6_isBegin_4 : decode cX6_isBegin 4 = .ok (.iload_n 2, 1) := by decide +kernel
theorem dX6_isBegin_5 : decode cX6_isBegin 5 = .ok (.iadd, 1) := by decide +kernel
theorem dX6_isBegin_6 : decode cX6_isBegin 6 = .ok (.istore_n 3, 1) := by decide +kernel
theorem dX6_isBegin_7 : decode cX6_isBegin 7 = .ok (.aload_n 0, 1) := by decide +kernel
theorem dX6_isBegin_8 : decode cX6_isBegin 8 = .ok (.getfield 31, 3) := by decide +kernel
theorem dX6_isBegin_11 : decode cX6_isBegin 11 = .ok (.iload_n 3, 1) := by decide +kernel
theorem dX6_isBegin_12 : decode cX6_isBegin 12 = .ok (.iaload, 1) := by decide +kernel
theorem dX6_isBegin_13 : decode cX6_isBegin 13 = .ok (.ifCond .le 22, 3) := by decide +kernel
theorem dX6_isBegin_16 : decode cX6_isBegin 16 = .ok (.iload_n 2, 1) := by decide +kernel
theorem dX6_isBegin_17 : decode cX6_isBegin 17 = .ok (.ifCond .eq 14, 3) := by decide +kernel
theorem dX6_isBegin_20 : decode cX6_isBegin 20 = .ok (.aload_n 0, 1) := by decide +kernel
theorem dX6_isBegin_21 : decode cX6_isBegin 21 = .ok (.getfield 31, 3) := by decide +kernel
theorem dX6_isBegin_24 : decode cX6_isBegin 24 = .ok (.iload_n 3, 1) := by decide +kernel
theorem dX6_isBegin_25 : decode cX6_isBegin 25 = .ok (.iconst 1, 1) := by decide +kernel
theorem dX6_isBegin_26 : decode cX6_isBegin 26 = .ok (.isub, 1) := by decide +kernel
theorem dX6_isBegin_27 : decode cX6_isBegin 27 = .ok (.iaload, 1) := by decide +kernel
theorem dX6_isBegin_28 : decode cX6_isBegin 28 = .ok (.ifCond .ne 7, 3) := by decide +kernel
theorem dX6_isBegin_31 : decode cX6_isBegin 31 = .ok (.iconst 1, 1) := by decide +kernel
theorem dX6_isBegin_32 : decode cX6_isBegin 32 = .ok (.goto 4, 3) := by decide +kernel
theorem dX6_isBegin_35 : decode cX6_isBegin 35 = .ok (.iconst 0, 1) := by decide +kernel
theorem dX6_isBegin_36 : decode cX6_isBegin 36 = .ok (.ireturn, 1) := by decide +kernel
theorem dX6_wordsOf_0 : decode cX6_wordsOf 0 = .ok (.iconst 0, 1) := by decide +kernel
theorem dX6_wordsOf_1 : decode cX6_wordsOf 1 = .ok (.istore_n 2, 1) := by decide +kernel
theorem dX6_wordsOf_2 : decode cX6_wordsOf 2 = .ok (.iconst 0, 1) := by decide +kernel
theorem dX6_wordsOf_3 : decode cX6_wordsOf 3 = .ok (.istore_n 3, 1) := by decide +kernel
theorem dX6_wordsOf_4 : decode cX6_wordsOf 4 = .ok (.iload_n 3, 1) := by decide +kernel
theorem dX6_wordsOf_5 : decode cX6_wordsOf 5 = .ok (.aload_n 0, 1) := by decide +kernel
theorem dX6_wordsOf_6 : decode cX6_wordsOf 6 = .ok (.getfield 34, 3) := by decide +kernel
theorem dX6_wordsOf_9 : decode cX6_wordsOf 9 = .ok (.iload_n 1, 1) := by decide +kernel
theorem dX6_wordsOf_10 : decode cX6_wordsOf 10 = .ok (.iaload, 1) := by decide +kernel
theorem dX6_wordsOf_11 : decode cX6_wordsOf 11 = .ok (.if_icmp .ge 26, 3) := by decide +kernel
theorem dX6_wordsOf_14 : decode cX6_wordsOf 14 = .ok (.iload_n 2, 1) := by decide +kernel
theorem dX6_wordsOf_15 : decode cX6_wordsOf 15 = .ok (.aload_n 0, 1) := by decide +kernel
theorem dX6_wordsOf_16 : decode cX6_wordsOf 16 = .ok (.iload_n 1, 1) := by decide +kernel
theorem dX6_wordsOf_17 : decode cX6_wordsOf 17 = .ok (.iload_n 3, 1) := by decide +kernel
theorem dX6_wordsOf_18 : decode cX6_wordsOf 18 = .ok (.invokevirtual 139, 3) := by decide +kernel
theorem dX6_wordsOf_21 : decode cX6_wordsOf 21 = .ok (.ifCond .eq 7, 3) := by decide +kernel
theorem dX6_wordsOf_24 : decode cX6_wordsOf 24 = .ok (.iconst 1, 1) := by decide +kernel
theorem dX6_wordsOf_25 : decode cX6_wordsOf 25 = .ok (.goto 4, 3) := by decide +kernel
theorem dX6_wordsOf_28 : decode cX6_wordsOf 28 = .ok (.iconst 0, 1) := by decide +kernel
theorem dX6_wordsOf_29 : decode cX6_wordsOf 29 = .ok (.iadd, 1) := by decide +kernel
theorem dX6_wordsOf_30 : decode cX6_wordsOf 30 = .ok (.istore_n 2, 1) := by decide +kernel
theorem dX6_wordsOf_31 : decode cX6_wordsOf 31 = .ok (.iinc 3 1, 3) := by decide +kernel
theorem dX6_wordsOf_34 : decode cX6_wordsOf 34 = .ok (.goto (-30), 3) := by decide +kernel
theorem dX6_wordsOf_37 : decode cX6_wordsOf 37 = .ok (.iload_n 2, 1) := by decide +kernel
theorem dX6_wordsOf_38 : decode cX6_wordsOf 38 = .ok (.ireturn, 1) := by decide +kernel
theorem dX6_beginOf_0 : decode cX6_beginOf 0 = .ok (.iload_n 2, 1) := by decide +kernel
theorem dX6_beginOf_1 : decode cX6_beginOf 1 = .ok (.istore_n 3, 1) := by decide +kernel
theorem dX6_beginOf_2 : decode cX6_beginOf 2 = .ok (.iconst 0, 1) := by decide +kernel
theorem dX6_beginOf_3 : decode cX6_beginOf 3 = .ok (.istore 4, 2) := by decide +kernel
theorem dX6_beginOf_5 : decode cX6_beginOf 5 = .ok (.aload_n 0, 1) := by decide +kernel
theorem dX6_beginOf_6 : decode cX6_beginOf 6 = .ok (.iload_n 1, 1) := by decide +kernel
theorem dX6_beginOf_7 : decode cX6_beginOf 7 = .ok (.iload 4, 2) := by decide +kernel
theorem dX6_beginOf_9 : decode cX6_beginOf 9 = .ok (.invokevirtual 139, 3) := by decide +kernel
theorem dX6_beginOf_12 : decode cX6_beginOf 12 = .ok (.ifCond .eq 7, 3) := by decide +kernel
theorem dX6_beginOf_15 : decode cX6_beginOf 15 = .ok (.iload_n 3, 1) := by decide +kernel
theorem dX6_beginOf_16 : decode cX6_beginOf 16 = .ok (.ifCond .le 27, 3) := by decide +kernel
theorem dX6_beginOf_19 : decode cX6_beginOf 19 = .ok (.iload_n 3, 1) := by decide +kernel
theorem dX6_beginOf_20 : decode cX6_beginOf 20 = .ok (.aload_n 0, 1) := by decide +kernel
theorem dX6_beginOf_21 : decode cX6_beginOf 21 = .ok (.iload_n 1, 1) := by decide +kernel
theorem dX6_beginOf_22 : decode cX6_beginOf 22 = .ok (.iload 4, 2) := by decide +kernel
theorem dX6_beginOf_24 : decode cX6_beginOf 24 = .ok (.invokevirtual 139, 3) := by decide +kernel
theorem dX6_beginOf_27 : decode cX6_beginOf 27 = .ok (.ifCond .eq 7, 3) := by decide +kernel
theorem dX6_beginOf_30 : decode cX6_beginOf 30 = .ok (.iconst 1, 1) := by decide +kernel
theorem dX6_beginOf_31 : decode cX6_beginOf 31 = .ok (.goto 4, 3) := by decide +kernel
theorem dX6_beginOf_34 : decode cX6_beginOf 34 = .ok (.iconst 0, 1) := by decide +kernel
theorem dX6_beginOf_35 : decode cX6_beginOf 35 = .ok (.isub, 1) := by decide +kernel
theorem dX6_beginOf_36 : decode cX6_beginOf 36 = .ok (.istore_n 3, 1) := by decide +kernel
theorem dX6_beginOf_37 : decode cX6_beginOf 37 = .ok (.iinc 4 1, 3) := by decide +kernel
theorem dX6_beginOf_40 : decode cX6_beginOf 40 = .ok (.goto (-35), 3) := by decide +kernel
theorem dX6_beginOf_43 : decode cX6_beginOf 43 = .ok (.bipush 80, 2) := by decide +kernel
theorem dX6_beginOf_45 : decode cX6_beginOf 45 = .ok (.iload_n 1, 1) := by decide +kernel
theorem dX6_beginOf_46 : decode cX6_beginOf 46 = .ok (.imul, 1) := by decide +kernel
theorem dX6_beginOf_47 : decode cX6_beginOf 47 = .ok (.iload 4, 2) := by decide +kernel
theorem dX6_beginOf_49 : decode cX6_beginOf 49 = .ok (.iadd, 1) := by decide +kernel
theorem dX6_beginOf_50 : decode cX6_beginOf 50 = .ok (.ireturn, 1) := by decide +kernel
theorem dX6_letterCount_0 : decode cX6_letterCount 0 = .ok (.bipush 80, 2) := by decide +kernel
theorem dX6_letterCount_2 : decode cX6_letterCount 2 = .ok (.iload_n 1, 1) := by decide +kernel
theorem dX6_letterCount_3 : decode cX6_letterCount 3 = .ok (.imul, 1) := by decide +kernel
theorem dX6_letterCount_4 : decode cX6_letterCount 4 = .ok (.aload_n 0, 1) := by decide +kernel
theorem dX6_letterCount_5 : decode cX6_letterCount 5 = .ok (.getfield 34, 3) := by decide +kernel
theorem dX6_letterCount_8 : decode cX6_letterCount 8 = .ok (.iload_n 1, 1) := by decide +kernel
theorem dX6_letterCount_9 : decode cX6_letterCount 9 = .ok (.iaload, 1) := by decide +kernel
theorem dX6_letterCount_10 : decode cX6_letterCount 10 = .ok (.iadd, 1) := by decide +kernel
theorem dX6_letterCount_11 : decode cX6_letterCount 11 = .ok (.istore_n 3, 1) := by decide +kernel
theorem dX6_letterCount_12 : decode cX6_letterCount 12 = .ok (.iconst 0, 1) := by decide +kernel
theorem dX6_letterCount_13 : decode cX6_letterCount 13 = .ok (.istore 4, 2) := by decide +kernel
theorem dX6_letterCount_15 : decode cX6_letterCount 15 = .ok (.iload_n 2, 1) := by decide +kernel
theorem dX6_letterCount_16 : decode cX6_letterCount 16 = .ok (.iload 4, 2) := by decide +kernel
theorem dX6_letterCount_18 : decode cX6_letterCount 18 = .ok (.iadd, 1) := by decide +kernel
theorem dX6_letterCount_19 : decode cX6_letterCount 19 = .ok (.iload_n 3, 1) := by decide +kernel
theorem dX6_letterCount_20 : decode cX6_letterCount 20 = .ok (.if_icmp .ge 21, 3) := by decide +kernel
theorem dX6_letterCount_23 : decode cX6_letterCount 23 = .ok (.aload_n 0, 1) := by decide +kernel
theorem dX6_letterCount_24 : decode cX6_letterCount 24 = .ok (.getfield 31, 3) := by decide +kernel
theorem dX6_letterCount_27 : decode cX6_letterCount 27 = .ok (.iload_n 2, 1) := by decide +kernel
theorem dX6_letterCount_28 : decode cX6_letterCount 28 = .ok (.iload 4, 2) := by decide +kernel
theorem dX6_letterCount_30 : decode cX6_letterCount 30 = .ok (.iadd, 1) := by decide +kernel
theorem dX6_letterCount_31 : decode cX6_letterCount 31 = .ok (.iaload, 1) := by decide +kernel
theorem dX6_letterCount_32 : decode cX6_letterCount 32 = .ok (.ifCond .le 9, 3) := by decide +kernel
theorem dX6_letterCount_35 : decode cX6_letterCount 35 = .ok (.iinc 4 1, 3) := by decide +kernel
theorem dX6_letterCount_38 : decode cX6_letterCount 38 = .ok (.goto (-23), 3) := by decide +kernel
theorem dX6_letterCount_41 : decode cX6_letterCount 41 = .ok (.iload 4, 2) := by decide +kernel
theorem dX6_letterCount_43 : decode cX6_letterCount 43 = .ok (.ireturn, 1) := by decide +kernel
theorem dX6_stands_0 : decode cX6_stands 0 = .ok (.aload_n 0, 1) := by decide +kernel
theorem dX6_stands_1 : decode cX6_stands 1 = .ok (.iload_n 1, 1) := by decide +kernel
theorem dX6_stands_2 : decode cX6_stands 2 = .ok (.invokevirtual 127, 3) := by decide +kernel
theorem dX6_stands_5 : decode cX6_stands 5 = .ok (.istore 4, 2) := by decide +kernel
theorem dX6_stands_7 : decode cX6_stands 7 = .ok (.iload 4, 2) := by decide +kernel
theorem dX6_stands_9 : decode cX6_stands 9 = .ok (.iload_n 3, 1) := by decide +kernel
theorem dX6_stands_10 : decode cX6_stands 10 = .ok (.if_icmp .gt 7, 3) := by decide +kernel
theorem dX6_stands_13 : decode cX6_stands 13 = .ok (.iconst 1, 1) := by decide +kernel
theorem dX6_stands_14 : decode cX6_stands 14 = .ok (.goto 4, 3) := by decide +kernel
theorem dX6_stands_17 : decode cX6_stands 17 = .ok (.iconst 0, 1) := by decide +kernel
theorem dX6_stands_18 : decode cX6_stands 18 = .ok (.istore 5, 2) := by decide +kernel
theorem dX6_stands_20 : decode cX6_stands 20 = .ok (.iconst 0, 1) := by decide +kernel
theorem dX6_stands_21 : decode cX6_stands 21 = .ok (.istore 6, 2) := by decide +kernel
theorem dX6_stands_23 : decode cX6_stands 23 = .ok (.iload 6, 2) := by decide +kernel
theorem dX6_stands_25 : decode cX6_stands 25 = .ok (.iload 4, 2) := by decide +kernel
theorem dX6_stands_27 : decode cX6_stands 27 = .ok (.if_icmp .ge 40, 3) := by decide +kernel
theorem dX6_stands_30 : decode cX6_stands 30 = .ok (.iload 5, 2) := by decide +kernel
theorem dX6_stands_32 : decode cX6_stands 32 = .ok (.ifCond .eq 35, 3) := by decide +kernel
theorem dX6_stands_35 : decode cX6_stands 35 = .ok (.aload_n 0, 1) := by decide +kernel
theorem dX6_stands_36 : decode cX6_stands 36 = .ok (.iload_n 1, 1) := by decide +kernel
theorem dX6_stands_37 : decode cX6_stands 37 = .ok (.iload 6, 2) := by decide +kernel
theorem dX6_stands_39 : decode cX6_stands 39 = .ok (.invokevirtual 96, 3) := by decide +kernel
theorem dX6_stands_42 : decode cX6_stands 42 = .ok (.aload_n 0, 1) := by decide +kernel
theorem dX6_stands_43 : decode cX6_stands 43 = .ok (.getfield 31, 3) := by decide +kernel
theorem dX6_stands_46 : decode cX6_stands 46 = .ok (.iload_n 2, 1) := by decide +kernel
theorem dX6_stands_47 : decode cX6_stands 47 = .ok (.iload 6, 2) := by decide +kernel
theorem dX6_stands_49 : decode cX6_stands 49 = .ok (.iadd, 1) := by decide +kernel
theorem dX6_stands_50 : decode cX6_stands 50 = .ok (.iaload, 1) := by decide +kernel
theorem dX6_stands_51 : decode cX6_stands 51 = .ok (.if_icmp .ne 7, 3) := by decide +kernel
theorem dX6_stands_54 : decode cX6_stands 54 = .ok (.iconst 1, 1) := by decide +kernel
theorem dX6_stands_55 : decode cX6_stands 55 = .ok (.goto 4, 3) := by decide +kernel
theorem dX6_stands_58 : decode cX6_stands 58 = .ok (.iconst 0, 1) := by decide +kernel
theorem dX6_stands_59 : decode cX6_stands 59 = .ok (.istore 5, 2) := by decide +kernel
theorem dX6_stands_61 : decode cX6_stands 61 = .ok (.iinc 6 1, 3) := by decide +kernel
theorem dX6_stands_64 : decode cX6_stands 64 = .ok (.goto (-41), 3) := by decide +kernel
theorem dX6_stands_67 : decode cX6_stands 67 = .ok (.iload 5, 2) := by decide +kernel
theorem dX6_stands_69 : decode cX6_stands 69 = .ok (.ireturn, 1) := by decide +kernel
theorem dX6_longest_0 : decode cX6_longest 0 = .ok (.iconst (-1), 1) := by decide +kernel
theorem dX6_longest_1 : decode cX6_longest 1 = .ok (.istore 5, 2) := by decide +kernel
theorem dX6_longest_3 : decode cX6_longest 3 = .ok (.iconst 0, 1) := by decide +kernel
theorem dX6_longest_4 : decode cX6_longest 4 = .ok (.istore 6, 2) := by decide +kernel
theorem dX6_longest_6 : decode cX6_longest 6 = .ok (.iload 6, 2) := by decide +kernel
theorem dX6_longest_8 : decode cX6_longest 8 = .ok (.aload_n 0, 1) := by decide +kernel
theorem dX6_longest_9 : decode cX6_longest 9 = .ok (.getfield 100, 3) := by decide +kernel
theorem dX6_longest_12 : decode cX6_longest 12 = .ok (.if_icmp .ge 84, 3) := by decide +kernel
theorem dX6_longest_15 : decode cX6_longest 15 = .ok (.aload_n 0, 1) := by decide +kernel
theorem dX6_longest_16 : decode cX6_longest 16 = .ok (.getfield 16, 3) := by decide +kernel
theorem dX6_longest_19 : decode cX6_longest 19 = .ok (.iload 6, 2) := by decide +kernel
theorem dX6_longest_21 : decode cX6_longest 21 = .ok (.iaload, 1) := by decide +kernel
theorem dX6_longest_22 : decode cX6_longest 22 = .ok (.iload 4, 2) := by decide +kernel
theorem dX6_longest_24 : decode cX6_longest 24 = .ok (.if_icmp .gt 28, 3) := by decide +kernel
theorem dX6_longest_27 : decode cX6_longest 27 = .ok (.aload_n 0, 1) := by decide +kernel
theorem dX6_longest_28 : decode cX6_longest 28 = .ok (.iload 6, 2) := by decide +kernel
theorem dX6_longest_30 : decode cX6_longest 30 = .ok (.invokevirtual 127, 3) := by decide +kernel
theorem dX6_longest_33 : decode cX6_longest 33 = .ok (.iload_n 3, 1) := by decide +kernel
theorem dX6_longest_34 : decode cX6_longest 34 = .ok (.if_icmp .gt 18, 3) := by decide +kernel
theorem dX6_longest_37 : decode cX6_longest 37 = .ok (.aload_n 0, 1) := by decide +kernel
theorem dX6_longest_38 : decode cX6_longest 38 = .ok (.iload 6, 2) := by decide +kernel
theorem dX6_longest_40 : decode cX6_longest 40 = .ok (.iload_n 1, 1) := by decide +kernel
theorem dX6_longest_41 : decode cX6_longest 41 = .ok (.iload_n 2, 1) := by decide +kernel
theorem dX6_longest_42 : decode cX6_longest 42 = .ok (.invokevirtual 143, 3) := by decide +kernel
theorem dX6_longest_45 : decode cX6_longest 45 = .ok (.ifCond .eq 7, 3) := by decide +kernel
theorem dX6_longest_48 : decode cX6_longest 48 = .ok (.iconst 1, 1) := by decide +kernel
theorem dX6_longest_49 : decode cX6_longest 49 = .ok (.goto 4, 3) := by decide +kernel
theorem dX6_longest_52 : decode cX6_longest 52 = .ok (.iconst 0, 1) := by decide +kernel
theorem dX6_longest_53 : decode cX6_longest 53 = .ok (.istore 7, 2) := by decide +kernel
theorem dX6_longest_55 : decode cX6_longest 55 = .ok (.iload 7, 2) := by decide +kernel
theorem dX6_longest_57 : decode cX6_longest 57 = .ok (.ifCond .eq 29, 3) := by decide +kernel
theorem dX6_longest_60 : decode cX6_longest 60 = .ok (.iload 5, 2) := by decide +kernel
theorem dX6_longest_62 : decode cX6_longest 62 = .ok (.iconst (-1), 1) := by decide +kernel
theorem dX6_longest_63 : decode cX6_longest 63 = .ok (.if_icmp .eq 18, 3) := by decide +kernel
theorem dX6_longest_66 : decode cX6_longest 66 = .ok (.aload_n 0, 1) := by decide +kernel
theorem dX6_longest_67 : decode cX6_longest 67 = .ok (.iload 6, 2) := by decide +kernel
theorem dX6_longest_69 : decode cX6_longest 69 = .ok (.invokevirtual 127, 3) := by decide +kernel
theorem dX6_longest_72 : decode cX6_longest 72 = .ok (.aload_n 0, 1) := by decide +kernel
theorem dX6_longest_73 : decode cX6_longest 73 = .ok (.iload 5, 2) := by decide +kernel
theorem dX6_longest_75 : decode cX6_longest 75 = .ok (.invokevirtual 127, 3) := by decide +kernel
theorem dX6_longest_78 : decode cX6_longest 78 = .ok (.if_icmp .le 8, 3) := by decide +kernel
theorem dX6_longest_81 : decode cX6_longest 81 = .ok (.iload 6, 2) := by decide +kernel
theorem dX6_longest_83 : decode cX6_longest 83 = .ok (.goto 5, 3) := by decide +kernel
theorem dX6_longest_86 : decode cX6_longest 86 = .ok (.iload 5, 2) := by decide +kernel
theorem dX6_longest_88 : decode cX6_longest 88 = .ok (.istore 5, 2) := by decide +kernel
theorem dX6_longest_90 : decode cX6_longest 90 = .ok (.iinc 6 1, 3) := by decide +kernel
theorem dX6_longest_93 : decode cX6_longest 93 = .ok (.goto (-87), 3) := by decide +kernel
theorem dX6_longest_96 : decode cX6_longest 96 = .ok (.iload 5, 2) := by decide +kernel
theorem dX6_longest_98 : decode cX6_longest 98 = .ok (.ireturn, 1) := by decide +kernel
theorem dX6_translates_0 : decode cX6_translates 0 = .ok (.aload_n 0, 1) := by decide +kernel
theorem dX6_translates_1 : decode cX6_translates 1 = .ok (.iload_n 1, 1) := by decide +kernel
theorem dX6_translates_2 : decode cX6_translates 2 = .ok (.iload_n 2, 1) := by decide +kernel
theorem dX6_translates_3 : decode cX6_translates 3 = .ok (.invokevirtual 146, 3) := by decide +kernel
theorem dX6_translates_6 : decode cX6_translates 6 = .ok (.istore_n 3, 1) := by decide +kernel
theorem dX6_translates_7 : decode cX6_translates 7 = .ok (.aload_n 0, 1) := by decide +kernel
theorem dX6_translates_8 : decode cX6_translates 8 = .ok (.iload_n 1, 1) := by decide +kernel
theorem dX6_translates_9 : decode cX6_translates 9 = .ok (.iload_n 3, 1) := by decide +kernel
theorem dX6_translates_10 : decode cX6_translates 10 = .ok (.invokevirtual 149, 3) := by decide +kernel
theorem dX6_translates_13 : decode cX6_translates 13 = .ok (.istore 4, 2) := by decide +kernel
theorem dX6_translates_15 : decode cX6_translates 15 = .ok (.aload_n 0, 1) := by decide +kernel
theorem dX6_translates_16 : decode cX6_translates 16 = .ok (.iload_n 3, 1) := by decide +kernel
theorem dX6_translates_17 : decode cX6_translates 17 = .ok (.iload 4, 2) := by decide +kernel
theorem dX6_translates_19 : decode cX6_translates 19 = .ok (.invokevirtual 152, 3) := by decide +kernel
theorem dX6_translates_22 : decode cX6_translates 22 = .ok (.ifCond .eq 7, 3) := by decide +kernel
theorem dX6_translates_25 : decode cX6_translates 25 = .ok (.iconst 1, 1) := by decide +kernel
theorem dX6_translates_26 : decode cX6_translates 26 = .ok (.goto 4, 3) := by decide +kernel
theorem dX6_translates_29 : decode cX6_translates 29 = .ok (.iconst 4, 1) := by decide +kernel
theorem dX6_translates_30 : decode cX6_translates 30 = .ok (.istore 5, 2) := by decide +kernel
theorem dX6_translates_32 : decode cX6_translates 32 = .ok (.aload_n 0, 1) := by decide +kernel
theorem dX6_translates_33 : decode cX6_translates 33 = .ok (.iconst 0, 1) := by decide +kernel
theorem dX6_translates_34 : decode cX6_translates 34 = .ok (.putfield 155, 3) := by decide +kernel
theorem dX6_translates_37 : decode cX6_translates 37 = .ok (.iconst 0, 1) := by decide +kernel
theorem dX6_translates_38 : decode cX6_translates 38 = .ok (.istore 6, 2) := by decide +kernel
theorem dX6_translates_40 : decode cX6_translates 40 = .ok (.iload 6, 2) := by decide +kernel
theorem dX6_translates_42 : decode cX6_translates 42 = .ok (.iload 4, 2) := by decide +kernel
theorem dX6_translates_44 : decode cX6_translates 44 = .ok (.if_icmp .ge 129, 3) := by decide +kernel
theorem dX6_translates_47 : decode cX6_translates 47 = .ok (.aload_n 0, 1) := by decide +kernel
theorem dX6_translates_48 : decode cX6_translates 48 = .ok (.iload_n 3, 1) := by decide +kernel
theorem dX6_translates_49 : decode cX6_translates 49 = .ok (.iload 6, 2) := by decide +kernel
theorem dX6_translates_51 : decode cX6_translates 51 = .ok (.iadd, 1) := by decide +kernel
theorem dX6_translates_52 : decode cX6_translates 52 = .ok (.iload 4, 2) := by decide +kernel
theorem dX6_translates_54 : decode cX6_translates 54 = .ok (.iload 6, 2) := by decide +kernel
theorem dX6_translates_56 : decode cX6_translates 56 = .ok (.isub, 1) := by decide +kernel
theorem dX6_translates_57 : decode cX6_translates 57 = .ok (.iload 5, 2) := by decide +kernel
theorem dX6_translates_59 : decode cX6_translates 59 = .ok (.aload_n 0, 1) := by decide +kernel
theorem dX6_translates_60 : decode cX6_translates 60 = .ok (.getfield 37, 3) := by decide +kernel
theorem dX6_translates_63 : decode cX6_translates 63 = .ok (.iload_n 1, 1) := by decide +kernel
theorem dX6_translates_64 : decode cX6_translates 64 = .ok (.iaload, 1) := by decide +kernel
theorem dX6_translates_65 : decode cX6_translates 65 = .ok (.invokevirtual 158, 3) := by decide +kernel
theorem dX6_translates_68 : decode cX6_translates 68 = .ok (.istore 7, 2) := by decide +kernel
theorem dX6_translates_70 : decode cX6_translates 70 = .ok (.aload_n 0, 1) := by decide +kernel
theorem dX6_translates_71 : decode cX6_translates 71 = .ok (.getfield 62, 3) := by decide +kernel
theorem dX6_translates_74 : decode cX6_translates 74 = .ok (.aload_n 0, 1) := by decide +kernel
theorem dX6_translates_75 : decode cX6_translates 75 = .ok (.getfield 155, 3) := by decide +kernel
theorem dX6_translates_78 : decode cX6_translates 78 = .ok (.iload 7, 2) := by decide +kernel
theorem dX6_translates_80 : decode cX6_translates 80 = .ok (.iconst (-1), 1) := by decide +kernel
theorem dX6_translates_81 : decode cX6_translates 81 = .ok (.if_icmp .ne 8, 3) := by decide +kernel
theorem dX6_translates_84 : decode cX6_translates 84 = .ok (.bipush 63, 2) := by decide +kernel
theorem dX6_translates_86 : decode cX6_translates 86 = .ok (.goto 10, 3) := by decide +kernel
theorem dX6_translates_89 : decode cX6_translates 89 = .ok (.aload_n 0, 1) := by decide +kernel
theorem dX6_translates_90 : decode cX6_translates 90 = .ok (.getfield 19, 3) := by decide +kernel
theorem dX6_translates_93 : decode cX6_translates 93 = .ok (.iload 7, 2) := by decide +kernel
theorem dX6_translates_95 : decode cX6_translates 95 = .ok (.iaload, 1) := by decide +kernel
theorem dX6_translates_96 : decode cX6_translates 96 = .ok (.iastore, 1) := by decide +kernel
theorem dX6_translates_97 : decode cX6_translates 97 = .ok (.aload_n 0, 1) := by decide +kernel
theorem dX6_translates_98 : decode cX6_translates 98 = .ok (.dup, 1) := by decide +kernel
theorem dX6_translates_99 : decode cX6_translates 99 = .ok (.getfield 155, 3) := by decide +kernel
theorem dX6_translates_102 : decode cX6_translates 102 = .ok (.iconst 1, 1) := by decide +kernel
theorem dX6_translates_103 : decode cX6_translates 103 = .ok (.iadd, 1) := by decide +kernel
theorem dX6_translates_104 : decode cX6_translates 104 = .ok (.putfield 155, 3) := by decide +kernel
theorem dX6_translates_107 : decode cX6_translates 107 = .ok (.iload 7, 2) := by decide +kernel
theorem dX6_translates_109 : decode cX6_translates 109 = .ok (.iconst (-1), 1) := by decide +kernel
theorem dX6_translates_110 : decode cX6_translates 110 = .ok (.if_icmp .eq 39, 3) := by decide +kernel
theorem dX6_translates_113 : decode cX6_translates 113 = .ok (.aload_n 0, 1) := by decide +kernel
theorem dX6_translates_114 : decode cX6_translates 114 = .ok (.getfield 22, 3) := by decide +kernel
theorem dX6_translates_117 : decode cX6_translates 117 = .ok (.iload 7, 2) := by decide +kernel
theorem dX6_translates_119 : decode cX6_translates 119 = .ok (.iaload, 1) := by decide +kernel
theorem dX6_translates_120 : decode cX6_translates 120 = .ok (.ifCond .le 29, 3) := by decide +kernel
theorem dX6_translates_123 : decode cX6_translates 123 = .ok (.aload_n 0, 1) := by decide +kernel
theorem dX6_translates_124 : decode cX6_translates 124 = .ok (.getfield 62, 3) := by decide +kernel
theorem dX6_translates_127 : decode cX6_translates 127 = .ok (.aload_n 0, 1) := by decide +kernel
theorem dX6_translates_128 : decode cX6_translates 128 = .ok (.getfield 155, 3) := by decide +kernel
theorem dX6_translates_131 : decode cX6_translates 131 = .ok (.aload_n 0, 1) := by decide +kernel
theorem dX6_translates_132 : decode cX6_translates 132 = .ok (.getfield 22, 3) := by decide +kernel
theorem dX6_translates_135 : decode cX6_translates 135 = .ok (.iload 7, 2) := by decide +kernel
theorem dX6_translates_137 : decode cX6_translates 137 = .ok (.iaload, 1) := by decide +kernel
theorem dX6_translates_138 : decode cX6_translates 138 = .ok (.iastore, 1) := by decide +kernel
theorem dX6_translates_139 : decode cX6_translates 139 = .ok (.aload_n 0, 1) := by decide +kernel
theorem dX6_translates_140 : decode cX6_translates 140 = .ok (.dup, 1) := by decide +kernel
theorem dX6_translates_141 : decode cX6_translates 141 = .ok (.getfield 155, 3) := by decide +kernel
theorem dX6_translates_144 : decode cX6_translates 144 = .ok (.iconst 1, 1) := by decide +kernel
theorem dX6_translates_145 : decode cX6_translates 145 = .ok (.iadd, 1) := by decide +kernel
theorem dX6_translates_146 : decode cX6_translates 146 = .ok (.putfield 155, 3) := by decide +kernel
theorem dX6_translates_149 : decode cX6_translates 149 = .ok (.iload 6, 2) := by decide +kernel
theorem dX6_translates_151 : decode cX6_translates 151 = .ok (.iload 7, 2) := by decide +kernel
theorem dX6_translates_153 : decode cX6_translates 153 = .ok (.iconst (-1), 1) := by decide +kernel
theorem dX6_translates_154 : decode cX6_translates 154 = .ok (.if_icmp .ne 7, 3) := by decide +kernel
theorem dX6_translates_157 : decode cX6_translates 157 = .ok (.iconst 1, 1) := by decide +kernel
theorem dX6_translates_158 : decode cX6_translates 158 = .ok (.goto 9, 3) := by decide +kernel
theorem dX6_translates_161 : decode cX6_translates 161 = .ok (.aload_n 0, 1) := by decide +kernel
theorem dX6_translates_162 : decode cX6_translates 162 = .ok (.iload 7, 2) := by decide +kernel
theorem dX6_translates_164 : decode cX6_translates 164 = .ok (.invokevirtual 127, 3) := by decide +kernel
theorem dX6_translates_167 : decode cX6_translates 167 = .ok (.iadd, 1) := by decide +kernel
theorem dX6_translates_168 : decode cX6_translates 168 = .ok (.istore 6, 2) := by decide +kernel
theorem dX6_translates_170 : decode cX6_translates 170 = .ok (.goto (-130), 3) := by decide +kernel
theorem dX6_translates_173 : decode cX6_translates 173 = .ok (.return_, 1) := by decide +kernel
theorem dX6_keepsCells_0 : decode cX6_keepsCells 0 = .ok (.iconst 0, 1) := by decide +kernel
theorem dX6_keepsCells_1 : decode cX6_keepsCells 1 = .ok (.istore_n 1, 1) := by decide +kernel
theorem dX6_keepsCells_2 : decode cX6_keepsCells 2 = .ok (.iconst 0, 1) := by decide +kernel
theorem dX6_keepsCells_3 : decode cX6_keepsCells 3 = .ok (.istore_n 2, 1) := by decide +kernel
theorem dX6_keepsCells_4 : decode cX6_keepsCells 4 = .ok (.iload_n 2, 1) := by decide +kernel
theorem dX6_keepsCells_5 : decode cX6_keepsCells 5 = .ok (.aload_n 0, 1) := by decide +kernel
theorem dX6_keepsCells_6 : decode cX6_keepsCells 6 = .ok (.getfield 162, 3) := by decide +kernel
theorem dX6_keepsCells_9 : decode cX6_keepsCells 9 = .ok (.if_icmp .ge 84, 3) := by decide +kernel
theorem dX6_keepsCells_12 : decode cX6_keepsCells 12 = .ok (.aload_n 0, 1) := by decide +kernel
theorem dX6_keepsCells_13 : decode cX6_keepsCells 13 = .ok (.iload_n 2, 1) := by decide +kernel
theorem dX6_keepsCells_14 : decode cX6_keepsCells 14 = .ok (.invokevirtual 165, 3) := by decide +kernel
theorem dX6_keepsCells_17 : decode cX6_keepsCells 17 = .ok (.istore_n 3, 1) := by decide +kernel
theorem dX6_keepsCells_18 : decode cX6_keepsCells 18 = .ok (.iconst 0, 1) := by decide +kernel
theorem dX6_keepsCells_19 : decode cX6_keepsCells 19 = .ok (.istore 4, 2) := by decide +kernel
theorem dX6_keepsCells_21 : decode cX6_keepsCells 21 = .ok (.iload 4, 2) := by decide +kernel
theorem dX6_keepsCells_23 : decode cX6_keepsCells 23 = .ok (.iload_n 3, 1) := by decide +kernel
theorem dX6_keepsCells_24 : decode cX6_keepsCells 24 = .ok (.if_icmp .ge 63, 3) := by decide +kernel
theorem dX6_keepsCells_27 : decode cX6_keepsCells 27 = .ok (.aload_n 0, 1) := by decide +kernel
theorem dX6_keepsCells_28 : decode cX6_keepsCells 28 = .ok (.iload_n 2, 1) := by decide +kernel
theorem dX6_keepsCells_29 : decode cX6_keepsCells 29 = .ok (.iload 4, 2) := by decide +kernel
theorem dX6_keepsCells_31 : decode cX6_keepsCells 31 = .ok (.invokevirtual 168, 3) := by decide +kernel
theorem dX6_keepsCells_34 : decode cX6_keepsCells 34 = .ok (.aload_n 0, 1) := by decide +kernel
theorem dX6_keepsCells_35 : decode cX6_keepsCells 35 = .ok (.getfield 65, 3) := by decide +kernel
theorem dX6_keepsCells_38 : decode cX6_keepsCells 38 = .ok (.iload_n 1, 1) := by decide +kernel
theorem dX6_keepsCells_39 : decode cX6_keepsCells 39 = .ok (.aload_n 0, 1) := by decide +kernel
theorem dX6_keepsCells_40 : decode cX6_keepsCells 40 = .ok (.getfield 155, 3) := by decide +kernel
theorem dX6_keepsCells_43 : decode cX6_keepsCells 43 = .ok (.iastore, 1) := by decide +kernel
theorem dX6_keepsCells_44 : decode cX6_keepsCells 44 = .ok (.iinc 1 1, 3) := by decide +kernel
theorem dX6_keepsCells_47 : decode cX6_keepsCells 47 = .ok (.iconst 0, 1) := by decide +kernel
theorem dX6_keepsCells_48 : decode cX6_keepsCells 48 = .ok (.istore 5, 2) := by decide +kernel
theorem dX6_keepsCells_50 : decode cX6_keepsCells 50 = .ok (.iload 5, 2) := by decide +kernel
theorem dX6_keepsCells_52 : decode cX6_keepsCells 52 = .ok (.aload_n 0, 1) := by decide +kernel
theorem dX6_keepsCells_53 : decode cX6_keepsCells 53 = .ok (.getfield 155, 3) := by decide +kernel
theorem dX6_keepsCells_56 : decode cX6_keepsCells 56 = .ok (.if_icmp .ge 25, 3) := by decide +kernel
theorem dX6_keepsCells_59 : decode cX6_keepsCells 59 = .ok (.aload_n 0, 1) := by decide +kernel
theorem dX6_keepsCells_60 : decode cX6_keepsCells 60 = .ok (.getfield 65, 3) := by decide +kernel
theorem dX6_keepsCells_63 : decode cX6_keepsCells 63 = .ok (.iload_n 1, 1) := by decide +kernel
theorem dX6_keepsCells_64 : decode cX6_keepsCells 64 = .ok (.aload_n 0, 1) := by decide +kernel
theorem dX6_keepsCells_65 : decode cX6_keepsCells 65 = .ok (.getfield 62, 3) := by decide +kernel
theorem dX6_keepsCells_68 : decode cX6_keepsCells 68 = .ok (.iload 5, 2) := by decide +kernel
theorem dX6_keepsCells_70 : decode cX6_keepsCells 70 = .ok (.iaload, 1) := by decide +kernel
theorem dX6_keepsCells_71 : decode cX6_keepsCells 71 = .ok (.iastore, 1) := by decide +kernel
theorem dX6_keepsCells_72 : decode cX6_keepsCells 72 = .ok (.iinc 1 1, 3) := by decide +kernel
theorem dX6_keepsCells_75 : decode cX6_keepsCells 75 = .ok (.iinc 5 1, 3) := by decide +kernel
theorem dX6_keepsCells_78 : decode cX6_keepsCells 78 = .ok (.goto (-28), 3) := by decide +kernel
theorem dX6_keepsCells_81 : decode cX6_keepsCells 81 = .ok (.iinc 4 1, 3) := by decide +kernel
theorem dX6_keepsCells_84 : decode cX6_keepsCells 84 = .ok (.goto (-63), 3) := by decide +kernel
theorem dX6_keepsCells_87 : decode cX6_keepsCells 87 = .ok (.iinc 2 1, 3) := by decide +kernel
theorem dX6_keepsCells_90 : decode cX6_keepsCells 90 = .ok (.goto (-86), 3) := by decide +kernel
theorem dX6_keepsCells_93 : decode cX6_keepsCells 93 = .ok (.return_, 1) := by decide +kernel
theorem dX6_textsChanged_0 : decode cX6_textsChanged 0 = .ok (.iconst 0, 1) := by decide +kernel
theorem dX6_textsChanged_1 : decode cX6_textsChanged 1 = .ok (.istore_n 1, 1) := by decide +kernel
theorem dX6_textsChanged_2 : decode cX6_textsChanged 2 = .ok (.iconst 0, 1) := by decide +kernel
theorem dX6_textsChanged_3 : decode cX6_textsChanged 3 = .ok (.istore_n 2, 1) := by decide +kernel
theorem dX6_textsChanged_4 : decode cX6_textsChanged 4 = .ok (.iconst 0, 1) := by decide +kernel
theorem dX6_textsChanged_5 : decode cX6_textsChanged 5 = .ok (.istore_n 3, 1) := by decide +kernel
theorem dX6_textsChanged_6 : decode cX6_textsChanged 6 = .ok (.iload_n 3, 1) := by decide +kernel
theorem dX6_textsChanged_7 : decode cX6_textsChanged 7 = .ok (.aload_n 0, 1) := by decide +kernel
theorem dX6_textsChanged_8 : decode cX6_textsChanged 8 = .ok (.getfield 162, 3) := by decide +kernel
theorem dX6_textsChanged_11 : decode cX6_textsChanged 11 = .ok (.if_icmp .ge 187, 3) := by decide +kernel
theorem dX6_textsChanged_14 : decode cX6_textsChanged 14 = .ok (.aload_n 0, 1) := by decide +kernel
theorem dX6_textsChanged_15 : decode cX6_textsChanged 15 = .ok (.iload_n 3, 1) := by decide +kernel
theorem dX6_textsChanged_16 : decode cX6_textsChanged 16 = .ok (.invokevirtual 165, 3) := by decide +kernel
theorem dX6_textsChanged_19 : decode cX6_textsChanged 19 = .ok (.istore 4, 2) := by decide +kernel
theorem dX6_textsChanged_21 : decode cX6_textsChanged 21 = .ok (.iconst 0, 1) := by decide +kernel
theorem dX6_textsChanged_22 : decode cX6_textsChanged 22 = .ok (.istore 5, 2) := by decide +kernel
theorem dX6_textsChanged_24 : decode cX6_textsChanged 24 = .ok (.iconst 0, 1) := by decide +kernel
theorem dX6_textsChanged_25 : decode cX6_textsChanged 25 = .ok (.istore 6, 2) := by decide +kernel
theorem dX6_textsChanged_27 : decode cX6_textsChanged 27 = .ok (.iload 6, 2) := by decide +kernel
theorem dX6_textsChanged_29 : decode cX6_textsChanged 29 = .ok (.iload 4, 2) := by decide +kernel
theorem dX6_textsChanged_31 : decode cX6_textsChanged 31 = .ok (.if_icmp .ge 148, 3) := by decide +kernel
theorem dX6_textsChanged_34 : decode cX6_textsChanged 34 = .ok (.aload_n 0, 1) := by decide +kernel
theorem dX6_textsChanged_35 : decode cX6_textsChanged 35 = .ok (.iload_n 3, 1) := by decide +kernel
theorem dX6_textsChanged_36 : decode cX6_textsChanged 36 = .ok (.iload 6, 2) := by decide +kernel
theorem dX6_textsChanged_38 : decode cX6_textsChanged 38 = .ok (.invokevirtual 168, 3) := by decide +kernel
theorem dX6_textsChanged_41 : decode cX6_textsChanged 41 = .ok (.aload_n 0, 1) := by decide +kernel
theorem dX6_textsChanged_42 : decode cX6_textsChanged 42 = .ok (.getfield 65, 3) := by decide +kernel
theorem dX6_textsChanged_45 : decode cX6_textsChanged 45 = .ok (.iload_n 1, 1) := by decide +kernel
theorem dX6_textsChanged_46 : decode cX6_textsChanged 46 = .ok (.iaload, 1) := by decide +kernel
theorem dX6_textsChanged_47 : decode cX6_textsChanged 47 = .ok (.istore 7, 2) := by decide +kernel
theorem dX6_textsChanged_49 : decode cX6_textsChanged 49 = .ok (.iload 7, 2) := by decide +kernel
theorem dX6_textsChanged_51 : decode cX6_textsChanged 51 = .ok (.aload_n 0, 1) := by decide +kernel
theorem dX6_textsChanged_52 : decode cX6_textsChanged 52 = .ok (.getfield 155, 3) := by decide +kernel
theorem dX6_textsChanged_55 : decode cX6_textsChanged 55 = .ok (.if_icmp .ne 7, 3) := by decide +kernel
theorem dX6_textsChanged_58 : decode cX6_textsChanged 58 = .ok (.iconst 1, 1) := by decide +kernel
theorem dX6_textsChanged_59 : decode cX6_textsChanged 59 = .ok (.goto 4, 3) := by decide +kernel
theorem dX6_textsChanged_62 : decode cX6_textsChanged 62 = .ok (.iconst 0, 1) := by decide +kernel
theorem dX6_textsChanged_63 : decode cX6_textsChanged 63 = .ok (.istore 8, 2) := by decide +kernel
theorem dX6_textsChanged_65 : decode cX6_textsChanged 65 = .ok (.iconst 0, 1) := by decide +kernel
theorem dX6_textsChanged_66 : decode cX6_textsChanged 66 = .ok (.istore 9, 2) := by decide +kernel
theorem dX6_textsChanged_68 : decode cX6_textsChanged 68 = .ok (.iload 9, 2) := by decide +kernel
theorem dX6_textsChanged_70 : decode cX6_textsChanged 70 = .ok (.iload 7, 2) := by decide +kernel
theorem dX6_textsChanged_72 : decode cX6_textsChanged 72 = .ok (.if_icmp .ge 42, 3) := by decide +kernel
theorem dX6_textsChanged_75 : decode cX6_textsChanged 75 = .ok (.iload 8, 2) := by decide +kernel
theorem dX6_textsChanged_77 : decode cX6_textsChanged 77 = .ok (.ifCond .eq 37, 3) := by decide +kernel
theorem dX6_textsChanged_80 : decode cX6_textsChanged 80 = .ok (.aload_n 0, 1) := by decide +kernel
theorem dX6_textsChanged_81 : decode cX6_textsChanged 81 = .ok (.getfield 65, 3) := by decide +kernel
theorem dX6_textsChanged_84 : decode cX6_textsChanged 84 = .ok (.iload_n 1, 1) := by decide +kernel
theorem dX6_textsChanged_85 : decode cX6_textsChanged 85 = .ok (.iconst 1, 1) := by decide +kernel
theorem dX6_textsChanged_86 : decode cX6_textsChanged 86 = .ok (.iadd, 1) := by decide +kernel
theorem dX6_textsChanged_87 : decode cX6_textsChanged 87 = .ok (.iload 9, 2) := by decide +kernel
theorem dX6_textsChanged_89 : decode cX6_textsChanged 89 = .ok (.iadd, 1) := by decide +kernel
theorem dX6_textsChanged_90 : decode cX6_textsChanged 90 = .ok (.iaload, 1) := by decide +kernel
theorem dX6_textsChanged_91 : decode cX6_textsChanged 91 = .ok (.aload_n 0, 1) := by decide +kernel
theorem dX6_textsChanged_92 : decode cX6_textsChanged 92 = .ok (.getfield 62, 3) := by decide +kernel
theorem dX6_textsChanged_95 : decode cX6_textsChanged 95 = .ok (.iload 9, 2) := by decide +kernel
theorem dX6_textsChanged_97 : decode cX6_textsChanged 97 = .ok (.iaload, 1) := by decide +kernel
theorem dX6_textsChanged_98 : decode cX6_textsChanged 98 = .ok (.if_icmp .ne 7, 3) := by decide +kernel
theorem dX6_textsChanged_101 : decode cX6_textsChanged 101 = .ok (.iconst 1, 1) := by decide +kernel
theorem dX6_textsChanged_102 : decode cX6_textsChanged 102 = .ok (.goto 4, 3) := by decide +kernel
theorem dX6_textsChanged_105 : decode cX6_textsChanged 105 = .ok (.iconst 0, 1) := by decide +kernel
theorem dX6_textsChanged_106 : decode cX6_textsChanged 106 = .ok (.istore 8, 2) := by decide +kernel
theorem dX6_textsChanged_108 : decode cX6_textsChanged 108 = .ok (.iinc 9 1, 3) := by decide +kernel
theorem dX6_textsChanged_111 : decode cX6_textsChanged 111 = .ok (.goto (-43), 3) := by decide +kernel
theorem dX6_textsChanged_114 : decode cX6_textsChanged 114 = .ok (.iload_n 1, 1) := by decide +kernel
theorem dX6_textsChanged_115 : decode cX6_textsChanged 115 = .ok (.iconst 1, 1) := by decide +kernel
theorem dX6_textsChanged_116 : decode cX6_textsChanged 116 = .ok (.iload 7, 2) := by decide +kernel
theorem dX6_textsChanged_118 : decode cX6_textsChanged 118 = .ok (.iadd, 1) := by decide +kernel
theorem dX6_textsChanged_119 : decode cX6_textsChanged 119 = .ok (.iadd, 1) := by decide +kernel
theorem dX6_textsChanged_120 : decode cX6_textsChanged 120 = .ok (.istore_n 1, 1) := by decide +kernel
theorem dX6_textsChanged_121 : decode cX6_textsChanged 121 = .ok (.iload 5, 2) := by decide +kernel
theorem dX6_textsChanged_123 : decode cX6_textsChanged 123 = .ok (.ifCond .ne 8, 3) := by decide +kernel
theorem dX6_textsChanged_126 : decode cX6_textsChanged 126 = .ok (.iload 8, 2) := by decide +kernel
theorem dX6_textsChanged_128 : decode cX6_textsChanged 128 = .ok (.ifCond .ne 7, 3) := by decide +kernel
theorem dX6_textsChanged_131 : decode cX6_textsChanged 131 = .ok (.iconst 1, 1) := by decide +kernel
theorem dX6_textsChanged_132 : decode cX6_textsChanged 132 = .ok (.goto 4, 3) := by decide +kernel
theorem dX6_textsChanged_135 : decode cX6_textsChanged 135 = .ok (.iconst 0, 1) := by decide +kernel
theorem dX6_textsChanged_136 : decode cX6_textsChanged 136 = .ok (.istore 5, 2) := by decide +kernel
theorem dX6_textsChanged_138 : decode cX6_textsChanged 138 = .ok (.iload 8, 2) := by decide +kernel
theorem dX6_textsChanged_140 : decode cX6_textsChanged 140 = .ok (.ifCond .ne 33, 3) := by decide +kernel
theorem dX6_textsChanged_143 : decode cX6_textsChanged 143 = .ok (.aload_n 0, 1) := by decide +kernel
theorem dX6_textsChanged_144 : decode cX6_textsChanged 144 = .ok (.getfield 53, 3) := by decide +kernel
theorem dX6_textsChanged_147 : decode cX6_textsChanged 147 = .ok (.bipush 40, 2) := by decide +kernel
theorem dX6_textsChanged_149 : decode cX6_textsChanged 149 = .ok (.iload_n 3, 1) := by decide +kernel
theorem dX6_textsChanged_150 : decode cX6_textsChanged 150 = .ok (.imul, 1) := by decide +kernel
theorem dX6_textsChanged_151 : decode cX6_textsChanged 151 = .ok (.iload 6, 2) := by decide +kernel
theorem dX6_textsChanged_153 : decode cX6_textsChanged 153 = .ok (.iadd, 1) := by decide +kernel
theorem dX6_textsChanged_154 : decode cX6_textsChanged 154 = .ok (.iconst 0, 1) := by decide +kernel
theorem dX6_textsChanged_155 : decode cX6_textsChanged 155 = .ok (.iastore, 1) := by decide +kernel
theorem dX6_textsChanged_156 : decode cX6_textsChanged 156 = .ok (.aload_n 0, 1) := by decide +kernel
theorem dX6_textsChanged_157 : decode cX6_textsChanged 157 = .ok (.getfield 53, 3) := by decide +kernel
theorem dX6_textsChanged_160 : decode cX6_textsChanged 160 = .ok (.sipush 240, 3) := by decide +kernel
theorem dX6_textsChanged_163 : decode cX6_textsChanged 163 = .ok (.bipush 40, 2) := by decide +kernel
theorem dX6_textsChanged_165 : decode cX6_textsChanged 165 = .ok (.iload_n 3, 1) := by decide +kernel
theorem dX6_textsChanged_166 : decode cX6_textsChanged 166 = .ok (.imul, 1) := by decide +kernel
theorem dX6_textsChanged_167 : decode cX6_textsChanged 167 = .ok (.iadd, 1) := by decide +kernel
theorem dX6_textsChanged_168 : decode cX6_textsChanged 168 = .ok (.iload 6, 2) := by decide +kernel
theorem dX6_textsChanged_170 : decode cX6_textsChanged 170 = .ok (.iadd, 1) := by decide +kernel
theorem dX6_textsChanged_171 : decode cX6_textsChanged 171 = .ok (.iconst 0, 1) := by decide +kernel
theorem dX6_textsChanged_172 : decode cX6_textsChanged 172 = .ok (.iastore, 1) := by decide +kernel
theorem dX6_textsChanged_173 : decode cX6_textsChanged 173 = .ok (.iinc 6 1, 3) := by decide +kernel
theorem dX6_textsChanged_176 : decode cX6_textsChanged 176 = .ok (.goto (-149), 3) := by decide +kernel
theorem dX6_textsChanged_179 : decode cX6_textsChanged 179 = .ok (.iload_n 2, 1) := by decide +kernel
theorem dX6_textsChanged_180 : decode cX6_textsChanged 180 = .ok (.iload 5, 2) := by decide +kernel
theorem dX6_textsChanged_182 : decode cX6_textsChanged 182 = .ok (.ifCond .eq 7, 3) := by decide +kernel
theorem dX6_textsChanged_185 : decode cX6_textsChanged 185 = .ok (.iconst 1, 1) := by decide +kernel
theorem dX6_textsChanged_186 : decode cX6_textsChanged 186 = .ok (.goto 4, 3) := by decide +kernel
theorem dX6_textsChanged_189 : decode cX6_textsChanged 189 = .ok (.iconst 0, 1) := by decide +kernel
theorem dX6_textsChanged_190 : decode cX6_textsChanged 190 = .ok (.iadd, 1) := by decide +kernel
theorem dX6_textsChanged_191 : decode cX6_textsChanged 191 = .ok (.istore_n 2, 1) := by decide +kernel
theorem dX6_textsChanged_192 : decode cX6_textsChanged 192 = .ok (.iinc 3 1, 3) := by decide +kernel
theorem dX6_textsChanged_195 : decode cX6_textsChanged 195 = .ok (.goto (-189), 3) := by decide +kernel
theorem dX6_textsChanged_198 : decode cX6_textsChanged 198 = .ok (.iload_n 2, 1) := by decide +kernel
theorem dX6_textsChanged_199 : decode cX6_textsChanged 199 = .ok (.ireturn, 1) := by decide +kernel
theorem dX6_isText_0 : decode cX6_isText 0 = .ok (.iload_n 1, 1) := by decide +kernel
theorem dX6_isText_1 : decode cX6_isText 1 = .ok (.iconst 0, 1) := by decide +kernel
theorem dX6_isText_2 : decode cX6_isText 2 = .ok (.aload_n 0, 1) := by decide +kernel
theorem dX6_isText_3 : decode cX6_isText 3 = .ok (.getfield 162, 3) := by decide +kernel
theorem dX6_isText_6 : decode cX6_isText 6 = .ok (.iconst 1, 1) := by decide +kernel
theorem dX6_isText_7 : decode cX6_isText 7 = .ok (.isub, 1) := by decide +kernel
theorem dX6_isText_8 : decode cX6_isText 8 = .ok (.invokestatic 77, 3) := by decide +kernel
theorem dX6_isText_11 : decode cX6_isText 11 = .ok (.ireturn, 1) := by decide +kernel
theorem dX6_setText_0 : decode cX6_setText 0 = .ok (.aload_n 0, 1) := by decide +kernel
theorem dX6_setText_1 : decode cX6_setText 1 = .ok (.iload_n 1, 1) := by decide +kernel
theorem dX6_setText_2 : decode cX6_setText 2 = .ok (.invokevirtual 171, 3) := by decide +kernel
theorem dX6_setText_5 : decode cX6_setText 5 = .ok (.ifCond .ne 20, 3) := by decide +kernel
theorem dX6_setText_8 : decode cX6_setText 8 = .ok (.iload_n 1, 1) := by decide +kernel
theorem dX6_setText_9 : decode cX6_setText 9 = .ok (.aload_n 0, 1) := by decide +kernel
theorem dX6_setText_10 : decode cX6_setText 10 = .ok (.getfield 162, 3) := by decide +kernel
theorem dX6_setText_13 : decode cX6_setText 13 = .ok (.if_icmp .ne 16, 3) := by decide +kernel
theorem dX6_setText_16 : decode cX6_setText 16 = .ok (.aload_n 0, 1) := by decide +kernel
theorem dX6_setText_17 : decode cX6_setText 17 = .ok (.getfield 162, 3) := by decide +kernel
theorem dX6_setText_20 : decode cX6_setText 20 = .ok (.bipush 6, 2) := by decide +kernel
theorem dX6_setText_22 : decode cX6_setText 22 = .ok (.if_icmp .ge 7, 3) := by decide +kernel
theorem dX6_setText_25 : decode cX6_setText 25 = .ok (.iconst 1, 1) := by decide +kernel
theorem dX6_setText_26 : decode cX6_setText 26 = .ok (.goto 4, 3) := by decide +kernel
theorem dX6_setText_29 : decode cX6_setText 29 = .ok (.iconst 0, 1) := by decide +kernel
theorem dX6_setText_30 : decode cX6_setText 30 = .ok (.istore_n 3, 1) := by decide +kernel
theorem dX6_setText_31 : decode cX6_setText 31 = .ok (.aload_n 0, 1) := by decide +kernel
theorem dX6_setText_32 : decode cX6_setText 32 = .ok (.iload_n 3, 1) := by decide +kernel
theorem dX6_setText_33 : decode cX6_setText 33 = .ok (.ifCond .ne 7, 3) := by decide +kernel
theorem dX6_setText_36 : decode cX6_setText 36 = .ok (.iconst 1, 1) := by decide +kernel
theorem dX6_setText_37 : decode cX6_setText 37 = .ok (.goto 17, 3) := by decide +kernel
theorem dX6_setText_40 : decode cX6_setText 40 = .ok (.iload_n 2, 1) := by decide +kernel
theorem dX6_setText_41 : decode cX6_setText 41 = .ok (.iconst 1, 1) := by decide +kernel
theorem dX6_setText_42 : decode cX6_setText 42 = .ok (.iconst 2, 1) := by decide +kernel
theorem dX6_setText_43 : decode cX6_setText 43 = .ok (.invokestatic 77, 3) := by decide +kernel
theorem dX6_setText_46 : decode cX6_setText 46 = .ok (.ifCond .ne 7, 3) := by decide +kernel
theorem dX6_setText_49 : decode cX6_setText 49 = .ok (.iconst 2, 1) := by decide +kernel
theorem dX6_setText_50 : decode cX6_setText 50 = .ok (.goto 4, 3) := by decide +kernel
theorem dX6_setText_53 : decode cX6_setText 53 = .ok (.iconst 0, 1) := by decide +kernel
theorem dX6_setText_54 : decode cX6_setText 54 = .ok (.invokevirtual 84, 3) := by decide +kernel
theorem dX6_setText_57 : decode cX6_setText 57 = .ok (.ifCond .ne 5, 3) := by decide +kernel
theorem dX6_setText_60 : decode cX6_setText 60 = .ok (.iconst 0, 1) := by decide +kernel
theorem dX6_setText_61 : decode cX6_setText 61 = .ok (.ireturn, 1) := by decide +kernel
theorem dX6_setText_62 : decode cX6_setText 62 = .ok (.aload_n 0, 1) := by decide +kernel
theorem dX6_setText_63 : decode cX6_setText 63 = .ok (.dup, 1) := by decide +kernel
theorem dX6_setText_64 : decode cX6_setText 64 = .ok (.getfield 162, 3) := by decide +kernel
theorem dX6_setText_67 : decode cX6_setText 67 = .ok (.iload_n 1, 1) := by decide +kernel
theorem dX6_setText_68 : decode cX6_setText 68 = .ok (.aload_n 0, 1) := by decide +kernel
theorem dX6_setText_69 : decode cX6_setText 69 = .ok (.getfield 162, 3) := by decide +kernel
theorem dX6_setText_72 : decode cX6_setText 72 = .ok (.if_icmp .ne 7, 3) := by decide +kernel
theorem dX6_setText_75 : decode cX6_setText 75 = .ok (.iconst 1, 1) := by decide +kernel
theorem dX6_setText_76 : decode cX6_setText 76 = .ok (.goto 4, 3) := by decide +kernel
theorem dX6_setText_79 : decode cX6_setText 79 = .ok (.iconst 0, 1) := by decide +kernel
theorem dX6_setText_80 : decode cX6_setText 80 = .ok (.iadd, 1) := by decide +kernel
theorem dX6_setText_81 : decode cX6_setText 81 = .ok (.putfield 162, 3) := by decide +kernel
theorem dX6_setText_84 : decode cX6_setText 84 = .ok (.iconst 0, 1) := by decide +kernel
theorem dX6_setText_85 : decode cX6_setText 85 = .ok (.istore 4, 2) := by decide +kernel
theorem dX6_setText_87 : decode cX6_setText 87 = .ok (.iload 4, 2) := by decide +kernel
theorem dX6_setText_89 : decode cX6_setText 89 = .ok (.bipush 80, 2) := by decide +kernel
theorem dX6_setText_91 : decode cX6_setText 91 = .ok (.if_icmp .ge 41, 3) := by decide +kernel
theorem dX6_setText_94 : decode cX6_setText 94 = .ok (.aload_n 0, 1) := by decide +kernel
theorem dX6_setText_95 : decode cX6_setText 95 = .ok (.getfield 31, 3) := by decide +kernel
theorem dX6_setText_98 : decode cX6_setText 98 = .ok (.bipush 80, 2) := by decide +kernel
theorem dX6_setText_100 : decode cX6_setText 100 = .ok (.iload_n 1, 1) := by decide +kernel
theorem dX6_setText_101 : decode cX6_setText 101 = .ok (.imul, 1) := by decide +kernel
theorem dX6_setText_102 : decode cX6_setText 102 = .ok (.iload 4, 2) := by decide +kernel
theorem dX6_setText_104 : decode cX6_setText 104 = .ok (.iadd, 1) := by decide +kernel
theorem dX6_setText_105 : decode cX6_setText 105 = .ok (.iload 4, 2) := by decide +kernel
theorem dX6_setText_107 : decode cX6_setText 107 = .ok (.aload_n 0, 1) := by decide +kernel
theorem dX6_setText_108 : decode cX6_setText 108 = .ok (.getfield 81, 3) := by decide +kernel
theorem dX6_setText_111 : decode cX6_setText 111 = .ok (.if_icmp .ge 13, 3) := by decide +kernel
theorem dX6_setText_114 : decode cX6_setText 114 = .ok (.aload_n 0, 1) := by decide +kernel
theorem dX6_setText_115 : decode cX6_setText 115 = .ok (.getfield 7, 3) := by decide +kernel
theorem dX6_setText_118 : decode cX6_setText 118 = .ok (.iload 4, 2) := by decide +kernel
theorem dX6_setText_120 : decode cX6_setText 120 = .ok (.iaload, 1) := by decide +kernel
theorem dX6_setText_121 : decode cX6_setText 121 = .ok (.goto 4, 3) := by decide +kernel
theorem dX6_setText_124 : decode cX6_setText 124 = .ok (.iconst 0, 1) := by decide +kernel
theorem dX6_setText_125 : decode cX6_setText 125 = .ok (.iastore, 1) := by decide +kernel
theorem dX6_setText_126 : decode cX6_setText 126 = .ok (.iinc 4 1, 3) := by decide +kernel
theorem dX6_setText_129 : decode cX6_setText 129 = .ok (.goto (-42), 3) := by decide +kernel
theorem dX6_setText_132 : decode cX6_setText 132 = .ok (.aload_n 0, 1) := by decide +kernel
theorem dX6_setText_133 : decode cX6_setText 133 = .ok (.getfield 34, 3) := by decide +kernel
theorem dX6_setText_136 : decode cX6_setText 136 = .ok (.iload_n 1, 1) := by decide +kernel
theorem dX6_setText_137 : decode cX6_setText 137 = .ok (.aload_n 0, 1) := by decide +kernel
theorem dX6_setText_138 : decode cX6_setText 138 = .ok (.getfield 81, 3) := by decide +kernel
theorem dX6_setText_141 : decode cX6_setText 141 = .ok (.iastore, 1) := by decide +kernel
theorem dX6_setText_142 : decode cX6_setText 142 = .ok (.aload_n 0, 1) := by decide +kernel
theorem dX6_setText_143 : decode cX6_setText 143 = .ok (.getfield 37, 3) := by decide +kernel
theorem dX6_setText_146 : decode cX6_setText 146 = .ok (.iload_n 1, 1) := by decide +kernel
theorem dX6_setText_147 : decode cX6_setText 147 = .ok (.iload_n 2, 1) := by decide +kernel
theorem dX6_setText_148 : decode cX6_setText 148 = .ok (.iastore, 1) := by decide +kernel
theorem dX6_setText_149 : decode cX6_setText 149 = .ok (.aload_n 0, 1) := by decide +kernel
theorem dX6_setText_150 : decode cX6_setText 150 = .ok (.iconst 0, 1) := by decide +kernel
theorem dX6_setText_151 : decode cX6_setText 151 = .ok (.putfield 81, 3) := by decide +kernel
theorem dX6_setText_154 : decode cX6_setText 154 = .ok (.iconst 0, 1) := by decide +kernel
theorem dX6_setText_155 : decode cX6_setText 155 = .ok (.istore 4, 2) := by decide +kernel
theorem dX6_setText_157 : decode cX6_setText 157 = .ok (.iload 4, 2) := by decide +kernel
theorem dX6_setText_159 : decode cX6_setText 159 = .ok (.bipush 40, 2) := by decide +kernel
theorem dX6_setText_161 : decode cX6_setText 161 = .ok (.if_icmp .ge 39, 3) := by decide +kernel
theorem dX6_setText_164 : decode cX6_setText 164 = .ok (.aload_n 0, 1) := by decide +kernel
theorem dX6_setText_165 : decode cX6_setText 165 = .ok (.getfield 53, 3) := by decide +kernel
theorem dX6_setText_168 : decode cX6_setText 168 = .ok (.bipush 40, 2) := by decide +kernel
theorem dX6_setText_170 : decode cX6_setText 170 = .ok (.iload_n 1, 1) := by decide +kernel
theorem dX6_setText_171 : decode cX6_setText 171 = .ok (.imul, 1) := by decide +kernel
theorem dX6_setText_172 : decode cX6_setText 172 = .ok (.iload 4, 2) := by decide +kernel
theorem dX6_setText_174 : decode cX6_setText 174 = .ok (.iadd, 1) := by decide +kernel
theorem dX6_setText_175 : decode cX6_setText 175 = .ok (.iconst 0, 1) := by decide +kernel
theorem dX6_setText_176 : decode cX6_setText 176 = .ok (.iastore, 1) := by decide +kernel
theorem dX6_setText_177 : decode cX6_setText 177 = .ok (.aload_n 0, 1) := by decide +kernel
theorem dX6_setText_178 : decode cX6_setText 178 = .ok (.getfield 53, 3) := by decide +kernel
theorem dX6_setText_181 : decode cX6_setText 181 = .ok (.sipush 240, 3) := by decide +kernel
theorem dX6_setText_184 : decode cX6_setText 184 = .ok (.bipush 40, 2) := by decide +kernel
theorem dX6_setText_186 : decode cX6_setText 186 = .ok (.iload_n 1, 1) := by decide +kernel
theorem dX6_setText_187 : decode cX6_setText 187 = .ok (.imul, 1) := by decide +kernel
theorem dX6_setText_188 : decode cX6_setText 188 = .ok (.iadd, 1) := by decide +kernel
theorem dX6_setText_189 : decode cX6_setText 189 = .ok (.iload 4, 2) := by decide +kernel
theorem dX6_setText_191 : decode cX6_setText 191 = .ok (.iadd, 1) := by decide +kernel
theorem dX6_setText_192 : decode cX6_setText 192 = .ok (.iconst 0, 1) := by decide +kernel
theorem dX6_setText_193 : decode cX6_setText 193 = .ok (.iastore, 1) := by decide +kernel
theorem dX6_setText_194 : decode cX6_setText 194 = .ok (.iinc 4 1, 3) := by decide +kernel
theorem dX6_setText_197 : decode cX6_setText 197 = .ok (.goto (-40), 3) := by decide +kernel
theorem dX6_setText_200 : decode cX6_setText 200 = .ok (.aload_n 0, 1) := by decide +kernel
theorem dX6_setText_201 : decode cX6_setText 201 = .ok (.iload_n 1, 1) := by decide +kernel
theorem dX6_setText_202 : decode cX6_setText 202 = .ok (.invokevirtual 165, 3) := by decide +kernel
theorem dX6_setText_205 : decode cX6_setText 205 = .ok (.ireturn, 1) := by decide +kernel
theorem dX6_setWidth_0 : decode cX6_setWidth 0 = .ok (.aload_n 0, 1) := by decide +kernel
theorem dX6_setWidth_1 : decode cX6_setWidth 1 = .ok (.iload_n 1, 1) := by decide +kernel
theorem dX6_setWidth_2 : decode cX6_setWidth 2 = .ok (.bipush 8, 2) := by decide +kernel
theorem dX6_setWidth_4 : decode cX6_setWidth 4 = .ok (.bipush 40, 2) := by decide +kernel
theorem dX6_setWidth_6 : decode cX6_setWidth 6 = .ok (.invokestatic 77, 3) := by decide +kernel
theorem dX6_setWidth_9 : decode cX6_setWidth 9 = .ok (.ifCond .eq 7, 3) := by decide +kernel
theorem dX6_setWidth_12 : decode cX6_setWidth 12 = .ok (.iconst 0, 1) := by decide +kernel
theorem dX6_setWidth_13 : decode cX6_setWidth 13 = .ok (.goto 4, 3) := by decide +kernel
theorem dX6_setWidth_16 : decode cX6_setWidth 16 = .ok (.iconst 1, 1) := by decide +kernel
theorem dX6_setWidth_17 : decode cX6_setWidth 17 = .ok (.invokevirtual 84, 3) := by decide +kernel
theorem dX6_setWidth_20 : decode cX6_setWidth 20 = .ok (.ifCond .ne 5, 3) := by decide +kernel
theorem dX6_setWidth_23 : decode cX6_setWidth 23 = .ok (.iconst 0, 1) := by decide +kernel
theorem dX6_setWidth_24 : decode cX6_setWidth 24 = .ok (.ireturn, 1) := by decide +kernel
theorem dX6_setWidth_25 : decode cX6_setWidth 25 = .ok (.aload_n 0, 1) := by decide +kernel
theorem dX6_setWidth_26 : decode cX6_setWidth 26 = .ok (.getfield 40, 3) := by decide +kernel
theorem dX6_setWidth_29 : decode cX6_setWidth 29 = .ok (.istore_n 2, 1) := by decide +kernel
theorem dX6_setWidth_30 : decode cX6_setWidth 30 = .ok (.aload_n 0, 1) := by decide +kernel
theorem dX6_setWidth_31 : decode cX6_setWidth 31 = .ok (.iload_n 1, 1) := by decide +kernel
theorem dX6_setWidth_32 : decode cX6_setWidth 32 = .ok (.putfield 40, 3) := by decide +kernel
theorem dX6_setWidth_35 : decode cX6_setWidth 35 = .ok (.iload_n 2, 1) := by decide +kernel
theorem dX6_setWidth_36 : decode cX6_setWidth 36 = .ok (.ireturn, 1) := by decide +kernel
theorem dX6_words_0 : decode cX6_words 0 = .ok (.aload_n 0, 1) := by decide +kernel
theorem dX6_words_1 : decode cX6_words 1 = .ok (.aload_n 0, 1) := by decide +kernel
theorem dX6_words_2 : decode cX6_words 2 = .ok (.iload_n 1, 1) := by decide +kernel
theorem dX6_words_3 : decode cX6_words 3 = .ok (.invokevirtual 171, 3) := by decide +kernel
theorem dX6_words_6 : decode cX6_words 6 = .ok (.ifCond .eq 7, 3) := by decide +kernel
theorem dX6_words_9 : decode cX6_words 9 = .ok (.iconst 0, 1) := by decide +kernel
theorem dX6_words_10 : decode cX6_words 10 = .ok (.goto 4, 3) := by decide +kernel
theorem dX6_words_13 : decode cX6_words 13 = .ok (.iconst 1, 1) := by decide +kernel
theorem dX6_words_14 : decode cX6_words 14 = .ok (.invokevirtual 84, 3) := by decide +kernel
theorem dX6_words_17 : decode cX6_words 17 = .ok (.ifCond .eq 11, 3) := by decide +kernel
theorem dX6_words_20 : decode cX6_words 20 = .ok (.aload_n 0, 1) := by decide +kernel
theorem dX6_words_21 : decode cX6_words 21 = .ok (.iload_n 1, 1) := by decide +kernel
theorem dX6_words_22 : decode cX6_words 22 = .ok (.invokevirtual 165, 3) := by decide +kernel
theorem dX6_words_25 : decode cX6_words 25 = .ok (.goto 4, 3) := by decide +kernel
theorem dX6_words_28 : decode cX6_words 28 = .ok (.iconst 0, 1) := by decide +kernel
theorem dX6_words_29 : decode cX6_words 29 = .ok (.ireturn, 1) := by decide +kernel
theorem dX6_isWord_0 : decode cX6_isWord 0 = .ok (.aload_n 0, 1) := by decide +kernel
theorem dX6_isWord_1 : decode cX6_isWord 1 = .ok (.iload_n 1, 1) := by decide +kernel
theorem dX6_isWord_2 : decode cX6_isWord 2 = .ok (.invokevirtual 171, 3) := by decide +kernel
theorem dX6_isWord_5 : decode cX6_isWord 5 = .ok (.ifCond .eq 22, 3) := by decide +kernel
theorem dX6_isWord_8 : decode cX6_isWord 8 = .ok (.iload_n 2, 1) := by decide +kernel
theorem dX6_isWord_9 : decode cX6_isWord 9 = .ok (.iconst 0, 1) := by decide +kernel
theorem dX6_isWord_10 : decode cX6_isWord 10 = .ok (.aload_n 0, 1) := by decide +kernel
theorem dX6_isWord_11 : decode cX6_isWord 11 = .ok (.iload_n 1, 1) := by decide +kernel
theorem dX6_isWord_12 : decode cX6_isWord 12 = .ok (.invokevirtual 165, 3) := by decide +kernel
theorem dX6_isWord_15 : decode cX6_isWord 15 = .ok (.iconst 1, 1) := by decide +kernel
theorem dX6_isWord_16 : decode cX6_isWord 16 = .ok (.isub, 1) := by decide +kernel
theorem dX6_isWord_17 : decode cX6_isWord 17 = .ok (.invokestatic 77, 3) := by decide +kernel
theorem dX6_isWord_20 : decode cX6_isWord 20 = .ok (.ifCond .eq 7, 3) := by decide +kernel
theorem dX6_isWord_23 : decode cX6_isWord 23 = .ok (.iconst 1, 1) := by decide +kernel
theorem dX6_isWord_24 : decode cX6_isWord 24 = .ok (.goto 4, 3) := by decide +kernel
theorem dX6_isWord_27 : decode cX6_isWord 27 = .ok (.iconst 0, 1) := by decide +kernel
theorem dX6_isWord_28 : decode cX6_isWord 28 = .ok (.ireturn, 1) := by decide +kernel
theorem dX6_length_0 : decode cX6_length 0 = .ok (.aload_n 0, 1) := by decide +kernel
theorem dX6_length_1 : decode cX6_length 1 = .ok (.aload_n 0, 1) := by decide +kernel
theorem dX6_length_2 : decode cX6_length 2 = .ok (.iload_n 1, 1) := by decide +kernel
theorem dX6_length_3 : decode cX6_length 3 = .ok (.iload_n 2, 1) := by decide +kernel
theorem dX6_length_4 : decode cX6_length 4 = .ok (.invokevirtual 174, 3) := by decide +kernel
theorem dX6_length_7 : decode cX6_length 7 = .ok (.ifCond .eq 7, 3) := by decide +kernel
theorem dX6_length_10 : decode cX6_length 10 = .ok (.iconst 0, 1) := by decide +kernel
theorem dX6_length_11 : decode cX6_length 11 = .ok (.goto 4, 3) := by decide +kernel
theorem dX6_length_14 : decode cX6_length 14 = .ok (.iconst 1, 1) := by decide +kernel
theorem dX6_length_15 : decode cX6_length 15 = .ok (.invokevirtual 84, 3) := by decide +kernel
theorem dX6_length_18 : decode cX6_length 18 = .ok (.ifCond .ne 5, 3) := by decide +kernel
theorem dX6_length_21 : decode cX6_length 21 = .ok (.iconst 0, 1) := by decide +kernel
theorem dX6_length_22 : decode cX6_length 22 = .ok (.ireturn, 1) := by decide +kernel
theorem dX6_length_23 : decode cX6_length 23 = .ok (.aload_n 0, 1) := by decide +kernel
theorem dX6_length_24 : decode cX6_length 24 = .ok (.iload_n 1, 1) := by decide +kernel
theorem dX6_length_25 : decode cX6_length 25 = .ok (.iload_n 2, 1) := by decide +kernel
theorem dX6_length_26 : decode cX6_length 26 = .ok (.invokevirtual 168, 3) := by decide +kernel
theorem dX6_length_29 : decode cX6_length 29 = .ok (.aload_n 0, 1) := by decide +kernel
theorem dX6_length_30 : decode cX6_length 30 = .ok (.getfield 155, 3) := by decide +kernel
theorem dX6_length_33 : decode cX6_length 33 = .ok (.ireturn, 1) := by decide +kernel
theorem dX6_cellOf_0 : decode cX6_cellOf 0 = .ok (.aload_n 0, 1) := by decide +kernel
theorem dX6_cellOf_1 : decode cX6_cellOf 1 = .ok (.iload_n 1, 1) := by decide +kernel
theorem dX6_cellOf_2 : decode cX6_cellOf 2 = .ok (.iload_n 2, 1) := by decide +kernel
theorem dX6_cellOf_3 : decode cX6_cellOf 3 = .ok (.invokevirtual 174, 3) := by decide +kernel
theorem dX6_cellOf_6 : decode cX6_cellOf 6 = .ok (.istore 4, 2) := by decide +kernel
theorem dX6_cellOf_8 : decode cX6_cellOf 8 = .ok (.iload 4, 2) := by decide +kernel
theorem dX6_cellOf_10 : decode cX6_cellOf 10 = .ok (.ifCond .eq 9, 3) := by decide +kernel
theorem dX6_cellOf_13 : decode cX6_cellOf 13 = .ok (.aload_n 0, 1) := by decide +kernel
theorem dX6_cellOf_14 : decode cX6_cellOf 14 = .ok (.iload_n 1, 1) := by decide +kernel
theorem dX6_cellOf_15 : decode cX6_cellOf 15 = .ok (.iload_n 2, 1) := by decide +kernel
theorem dX6_cellOf_16 : decode cX6_cellOf 16 = .ok (.invokevirtual 168, 3) := by decide +kernel
theorem dX6_cellOf_19 : decode cX6_cellOf 19 = .ok (.aload_n 0, 1) := by decide +kernel
theorem dX6_cellOf_20 : decode cX6_cellOf 20 = .ok (.iload 4, 2) := by decide +kernel
theorem dX6_cellOf_22 : decode cX6_cellOf 22 = .ok (.ifCond .ne 7, 3) := by decide +kernel
theorem dX6_cellOf_25 : decode cX6_cellOf 25 = .ok (.iconst 1, 1) := by decide +kernel
theorem dX6_cellOf_26 : decode cX6_cellOf 26 = .ok (.goto 22, 3) := by decide +kernel
theorem dX6_cellOf_29 : decode cX6_cellOf 29 = .ok (.iload_n 3, 1) := by decide +kernel
theorem dX6_cellOf_30 : decode cX6_cellOf 30 = .ok (.iconst 0, 1) := by decide +kernel
theorem dX6_cellOf_31 : decode cX6_cellOf 31 = .ok (.aload_n 0, 1) := by decide +kernel
theorem dX6_cellOf_32 : decode cX6_cellOf 32 = .ok (.getfield 155, 3) := by decide +kernel
theorem dX6_cellOf_35 : decode cX6_cellOf 35 = .ok (.iconst 1, 1) := by decide +kernel
theorem dX6_cellOf_36 : decode cX6_cellOf 36 = .ok (.isub, 1) := by decide +kernel
theorem dX6_cellOf_37 : decode cX6_cellOf 37 = .ok (.invokestatic 77, 3) := by decide +kernel
theorem dX6_cellOf_40 : decode cX6_cellOf 40 = .ok (.ifCond .ne 7, 3) := by decide +kernel
theorem dX6_cellOf_43 : decode cX6_cellOf 43 = .ok (.iconst 2, 1) := by decide +kernel
theorem dX6_cellOf_44 : decode cX6_cellOf 44 = .ok (.goto 4, 3) := by decide +kernel
theorem dX6_cellOf_47 : decode cX6_cellOf 47 = .ok (.iconst 0, 1) := by decide +kernel
theorem dX6_cellOf_48 : decode cX6_cellOf 48 = .ok (.invokevirtual 84, 3) := by decide +kernel
theorem dX6_cellOf_51 : decode cX6_cellOf 51 = .ok (.ifCond .eq 12, 3) := by decide +kernel
theorem dX6_cellOf_54 : decode cX6_cellOf 54 = .ok (.aload_n 0, 1) := by decide +kernel
theorem dX6_cellOf_55 : decode cX6_cellOf 55 = .ok (.getfield 62, 3) := by decide +kernel
theorem dX6_cellOf_58 : decode cX6_cellOf 58 = .ok (.iload_n 3, 1) := by decide +kernel
theorem dX6_cellOf_59 : decode cX6_cellOf 59 = .ok (.iaload, 1) := by decide +kernel
theorem dX6_cellOf_60 : decode cX6_cellOf 60 = .ok (.goto 4, 3) := by decide +kernel
theorem dX6_cellOf_63 : decode cX6_cellOf 63 = .ok (.iconst 0, 1) := by decide +kernel
theorem dX6_cellOf_64 : decode cX6_cellOf 64 = .ok (.ireturn, 1) := by decide +kernel
theorem dX6_addsCell_0 : decode cX6_addsCell 0 = .ok (.aload_n 0, 1) := by decide +kernel
theorem dX6_addsCell_1 : decode cX6_addsCell 1 = .ok (.getfield 68, 3) := by decide +kernel
theorem dX6_addsCell_4 : decode cX6_addsCell 4 = .ok (.bipush 40, 2) := by decide +kernel
theorem dX6_addsCell_6 : decode cX6_addsCell 6 = .ok (.aload_n 0, 1) := by decide +kernel
theorem dX6_addsCell_7 : decode cX6_addsCell 7 = .ok (.getfield 177, 3) := by decide +kernel
theorem dX6_addsCell_10 : decode cX6_addsCell 10 = .ok (.iconst 1, 1) := by decide +kernel
theorem dX6_addsCell_11 : decode cX6_addsCell 11 = .ok (.isub, 1) := by decide +kernel
theorem dX6_addsCell_12 : decode cX6_addsCell 12 = .ok (.imul, 1) := by decide +kernel
theorem dX6_addsCell_13 : decode cX6_addsCell 13 = .ok (.aload_n 0, 1) := by decide +kernel
theorem dX6_addsCell_14 : decode cX6_addsCell 14 = .ok (.getfield 71, 3) := by decide +kernel
theorem dX6_addsCell_17 : decode cX6_addsCell 17 = .ok (.aload_n 0, 1) := by decide +kernel
theorem dX6_addsCell_18 : decode cX6_addsCell 18 = .ok (.getfield 177, 3) := by decide +kernel
theorem dX6_addsCell_21 : decode cX6_addsCell 21 = .ok (.iconst 1, 1) := by decide +kernel
theorem dX6_addsCell_22 : decode cX6_addsCell 22 = .ok (.isub, 1) := by decide +kernel
theorem dX6_addsCell_23 : decode cX6_addsCell 23 = .ok (.iaload, 1) := by decide +kernel
theorem dX6_addsCell_24 : decode cX6_addsCell 24 = .ok (.iadd, 1) := by decide +kernel
theorem dX6_addsCell_25 : decode cX6_addsCell 25 = .ok (.iload_n 1, 1) := by decide +kernel
theorem dX6_addsCell_26 : decode cX6_addsCell 26 = .ok (.iastore, 1) := by decide +kernel
theorem dX6_addsCell_27 : decode cX6_addsCell 27 = .ok (.aload_n 0, 1) := by decide +kernel
theorem dX6_addsCell_28 : decode cX6_addsCell 28 = .ok (.getfield 71, 3) := by decide +kernel
theorem dX6_addsCell_31 : decode cX6_addsCell 31 = .ok (.aload_n 0, 1) := by decide +kernel
theorem dX6_addsCell_32 : decode cX6_addsCell 32 = .ok (.getfield 177, 3) := by decide +kernel
theorem dX6_addsCell_35 : decode cX6_addsCell 35 = .ok (.iconst 1, 1) := by decide +kernel
theorem dX6_addsCell_36 : decode cX6_addsCell 36 = .ok (.isub, 1) := by decide +kernel
theorem dX6_addsCell_37 : decode cX6_addsCell 37 = .ok (.dup2, 1) := by decide +kernel
theorem dX6_addsCell_38 : decode cX6_addsCell 38 = .ok (.iaload, 1) := by decide +kernel
theorem dX6_addsCell_39 : decode cX6_addsCell 39 = .ok (.iconst 1, 1) := by decide +kernel
theorem dX6_addsCell_40 : decode cX6_addsCell 40 = .ok (.iadd, 1) := by decide +kernel
theorem dX6_addsCell_41 : decode cX6_addsCell 41 = .ok (.iastore, 1) := by decide +kernel
theorem dX6_addsCell_42 : decode cX6_addsCell 42 = .ok (.return_, 1) := by decide +kernel
theorem dX6_begins_0 : decode cX6_begins 0 = .ok (.aload_n 0, 1) := by decide +kernel
theorem dX6_begins_1 : decode cX6_begins 1 = .ok (.getfield 71, 3) := by decide +kernel
theorem dX6_begins_4 : decode cX6_begins 4 = .ok (.aload_n 0, 1) := by decide +kernel
theorem dX6_begins_5 : decode cX6_begins 5 = .ok (.getfield 177, 3) := by decide +kernel
theorem dX6_begins_8 : decode cX6_begins 8 = .ok (.iconst 0, 1) := by decide +kernel
theorem dX6_begins_9 : decode cX6_begins 9 = .ok (.iastore, 1) := by decide +kernel
theorem dX6_begins_10 : decode cX6_begins 10 = .ok (.aload_n 0, 1) := by decide +kernel
theorem dX6_begins_11 : decode cX6_begins 11 = .ok (.dup, 1) := by decide +kernel
theorem dX6_begins_12 : decode cX6_begins 12 = .ok (.getfield 177, 3) := by decide +kernel
theorem dX6_begins_15 : decode cX6_begins 15 = .ok (.iconst 1, 1) := by decide +kernel
theorem dX6_begins_16 : decode cX6_begins 16 = .ok (.iadd, 1) := by decide +kernel
theorem dX6_begins_17 : decode cX6_begins 17 = .ok (.putfield 177, 3) := by decide +kernel
theorem dX6_begins_20 : decode cX6_begins 20 = .ok (.return_, 1) := by decide +kernel
theorem dX6_breaks_0 : decode cX6_breaks 0 = .ok (.iconst (-1), 1) := by decide +kernel
theorem dX6_breaks_1 : decode cX6_breaks 1 = .ok (.istore_n 3, 1) := by decide +kernel
theorem dX6_breaks_2 : decode cX6_breaks 2 = .ok (.aload_n 0, 1) := by decide +kernel
theorem dX6_breaks_3 : decode cX6_breaks 3 = .ok (.iload_n 1, 1) := by decide +kernel
theorem dX6_breaks_4 : decode cX6_breaks 4 = .ok (.invokevirtual 165, 3) := by decide +kernel
theorem dX6_breaks_7 : decode cX6_breaks 7 = .ok (.istore 4, 2) := by decide +kernel
theorem dX6_breaks_9 : decode cX6_breaks 9 = .ok (.aload_n 0, 1) := by decide +kernel
theorem dX6_breaks_10 : decode cX6_breaks 10 = .ok (.iconst 0, 1) := by decide +kernel
theorem dX6_breaks_11 : decode cX6_breaks 11 = .ok (.putfield 177, 3) := by decide +kernel
theorem dX6_breaks_14 : decode cX6_breaks 14 = .ok (.iconst 0, 1) := by decide +kernel
theorem dX6_breaks_15 : decode cX6_breaks 15 = .ok (.istore 5, 2) := by decide +kernel
theorem dX6_breaks_17 : decode cX6_breaks 17 = .ok (.iload 5, 2) := by decide +kernel
theorem dX6_breaks_19 : decode cX6_breaks 19 = .ok (.iload 4, 2) := by decide +kernel
theorem dX6_breaks_21 : decode cX6_breaks 21 = .ok (.if_icmp .ge 140, 3) := by decide +kernel
theorem dX6_breaks_24 : decode cX6_breaks 24 = .ok (.aload_n 0, 1) := by decide +kernel
theorem dX6_breaks_25 : decode cX6_breaks 25 = .ok (.iload_n 1, 1) := by decide +kernel
theorem dX6_breaks_26 : decode cX6_breaks 26 = .ok (.iload 5, 2) := by decide +kernel
theorem dX6_breaks_28 : decode cX6_breaks 28 = .ok (.invokevirtual 168, 3) := by decide +kernel
theorem dX6_breaks_31 : decode cX6_breaks 31 = .ok (.aload_n 0, 1) := by decide +kernel
theorem dX6_breaks_32 : decode cX6_breaks 32 = .ok (.getfield 177, 3) := by decide +kernel
theorem dX6_breaks_35 : decode cX6_breaks 35 = .ok (.ifCond .le 32, 3) := by decide +kernel
theorem dX6_breaks_38 : decode cX6_breaks 38 = .ok (.aload_n 0, 1) := by decide +kernel
theorem dX6_breaks_39 : decode cX6_breaks 39 = .ok (.getfield 71, 3) := by decide +kernel
theorem dX6_breaks_42 : decode cX6_breaks 42 = .ok (.aload_n 0, 1) := by decide +kernel
theorem dX6_breaks_43 : decode cX6_breaks 43 = .ok (.getfield 177, 3) := by decide +kernel
theorem dX6_breaks_46 : decode cX6_breaks 46 = .ok (.iconst 1, 1) := by decide +kernel
theorem dX6_breaks_47 : decode cX6_breaks 47 = .ok (.isub, 1) := by decide +kernel
theorem dX6_breaks_48 : decode cX6_breaks 48 = .ok (.iaload, 1) := by decide +kernel
theorem dX6_breaks_49 : decode cX6_breaks 49 = .ok (.iconst 1, 1) := by decide +kernel
theorem dX6_breaks_50 : decode cX6_breaks 50 = .ok (.iadd, 1) := by decide +kernel
theorem dX6_breaks_51 : decode cX6_breaks 51 = .ok (.aload_n 0, 1) := by decide +kernel
theorem dX6_breaks_52 : decode cX6_breaks 52 = .ok (.getfield 155, 3) := by decide +kernel
theorem dX6_breaks_55 : decode cX6_breaks 55 = .ok (.iadd, 1) := by decide +kernel
theorem dX6_breaks_56 : decode cX6_breaks 56 = .ok (.aload_n 0, 1) := by decide +kernel
theorem dX6_breaks_57 : decode cX6_breaks 57 = .ok (.getfield 40, 3) := by decide +kernel
theorem dX6_breaks_60 : decode cX6_breaks 60 = .ok (.if_icmp .gt 7, 3) := by decide +kernel
theorem dX6_breaks_63 : decode cX6_breaks 63 = .ok (.iconst 1, 1) := by decide +kernel
theorem dX6_breaks_64 : decode cX6_breaks 64 = .ok (.goto 4, 3) := by decide +kernel
theorem dX6_breaks_67 : decode cX6_breaks 67 = .ok (.iconst 0, 1) := by decide +kernel
theorem dX6_breaks_68 : decode cX6_breaks 68 = .ok (.istore 6, 2) := by decide +kernel
theorem dX6_breaks_70 : decode cX6_breaks 70 = .ok (.iload 6, 2) := by decide +kernel
theorem dX6_breaks_72 : decode cX6_breaks 72 = .ok (.ifCond .eq 11, 3) := by decide +kernel
theorem dX6_breaks_75 : decode cX6_breaks 75 = .ok (.aload_n 0, 1) := by decide +kernel
theorem dX6_breaks_76 : decode cX6_breaks 76 = .ok (.iconst 0, 1) := by decide +kernel
theorem dX6_breaks_77 : decode cX6_breaks 77 = .ok (.invokevirtual 180, 3) := by decide +kernel
theorem dX6_breaks_80 : decode cX6_breaks 80 = .ok (.goto 7, 3) := by decide +kernel
theorem dX6_breaks_83 : decode cX6_breaks 83 = .ok (.aload_n 0, 1) := by decide +kernel
theorem dX6_breaks_84 : decode cX6_breaks 84 = .ok (.invokevirtual 184, 3) := by decide +kernel
theorem dX6_breaks_87 : decode cX6_breaks 87 = .ok (.iload 5, 2) := by decide +kernel
theorem dX6_breaks_89 : decode cX6_breaks 89 = .ok (.iload_n 2, 1) := by decide +kernel
theorem dX6_breaks_90 : decode cX6_breaks 90 = .ok (.if_icmp .ne 12, 3) := by decide +kernel
theorem dX6_breaks_93 : decode cX6_breaks 93 = .ok (.aload_n 0, 1) := by decide +kernel
theorem dX6_breaks_94 : decode cX6_breaks 94 = .ok (.getfield 177, 3) := by decide +kernel
theorem dX6_breaks_97 : decode cX6_breaks 97 = .ok (.iconst 1, 1) := by decide +kernel
theorem dX6_breaks_98 : decode cX6_breaks 98 = .ok (.isub, 1) := by decide +kernel
theorem dX6_breaks_99 : decode cX6_breaks 99 = .ok (.goto 4, 3) := by decide +kernel
theorem dX6_breaks_102 : decode cX6_breaks 102 = .ok (.iload_n 3, 1) := by decide +kernel
theorem dX6_breaks_103 : decode cX6_breaks 103 = .ok (.istore_n 3, 1) := by decide +kernel
theorem dX6_breaks_104 : decode cX6_breaks 104 = .ok (.iconst 0, 1) := by decide +kernel
theorem dX6_breaks_105 : decode cX6_breaks 105 = .ok (.istore 7, 2) := by decide +kernel
theorem dX6_breaks_107 : decode cX6_breaks 107 = .ok (.iload 7, 2) := by decide +kernel
theorem dX6_breaks_109 : decode cX6_breaks 109 = .ok (.aload_n 0, 1) := by decide +kernel
theorem dX6_breaks_110 : decode cX6_breaks 110 = .ok (.getfield 155, 3) := by decide +kernel
theorem dX6_breaks_113 : decode cX6_breaks 113 = .ok (.if_icmp .ge 42, 3) := by decide +kernel
theorem dX6_breaks_116 : decode cX6_breaks 116 = .ok (.aload_n 0, 1) := by decide +kernel
theorem dX6_breaks_117 : decode cX6_breaks 117 = .ok (.getfield 71, 3) := by decide +kernel
theorem dX6_breaks_120 : decode cX6_breaks 120 = .ok (.aload_n 0, 1) := by decide +kernel
theorem dX6_breaks_121 : decode cX6_breaks 121 = .ok (.getfield 177, 3) := by decide +kernel
theorem dX6_breaks_124 : decode cX6_breaks 124 = .ok (.iconst 1, 1) := by decide +kernel
theorem dX6_breaks_125 : decode cX6_breaks 125 = .ok (.isub, 1) := by decide +kernel
theorem dX6_breaks_126 : decode cX6_breaks 126 = .ok (.iaload, 1) := by decide +kernel
theorem dX6_breaks_127 : decode cX6_breaks 127 = .ok (.aload_n 0, 1) := by decide +kernel
theorem dX6_breaks_128 : decode cX6_breaks 128 = .ok (.getfield 40, 3) := by decide +kernel
theorem dX6_breaks_131 : decode cX6_breaks 131 = .ok (.if_icmp .ne 7, 3) := by decide +kernel
theorem dX6_breaks_134 : decode cX6_breaks 134 = .ok (.aload_n 0, 1) := by decide +kernel
theorem dX6_breaks_135 : decode cX6_breaks 135 = .ok (.invokevirtual 184, 3) := by decide +kernel
theorem dX6_breaks_138 : decode cX6_breaks 138 = .ok (.aload_n 0, 1) := by decide +kernel
theorem dX6_breaks_139 : decode cX6_breaks 139 = .ok (.aload_n 0, 1) := by decide +kernel
theorem dX6_breaks_140 : decode cX6_breaks 140 = .ok (.getfield 62, 3) := by decide +kernel
theorem dX6_breaks_143 : decode cX6_breaks 143 = .ok (.iload 7, 2) := by decide +kernel
theorem dX6_breaks_145 : decode cX6_breaks 145 = .ok (.iaload, 1) := by decide +kernel
theorem dX6_breaks_146 : decode cX6_breaks 146 = .ok (.invokevirtual 180, 3) := by decide +kernel
theorem dX6_breaks_149 : decode cX6_breaks 149 = .ok (.iinc 7 1, 3) := by decide +kernel
theorem dX6_breaks_152 : decode cX6_breaks 152 = .ok (.goto (-45), 3) := by decide +kernel
theorem dX6_breaks_155 : decode cX6_breaks 155 = .ok (.iinc 5 1, 3) := by decide +kernel
theorem dX6_breaks_158 : decode cX6_breaks 158 = .ok (.goto (-141), 3) := by decide +kernel
theorem dX6_breaks_161 : decode cX6_breaks 161 = .ok (.iload_n 3, 1) := by decide +kernel
theorem dX6_breaks_162 : decode cX6_breaks 162 = .ok (.ireturn, 1) := by decide +kernel
theorem dX6_lines_0 : decode cX6_lines 0 = .ok (.aload_n 0, 1) := by decide +kernel
theorem dX6_lines_1 : decode cX6_lines 1 = .ok (.aload_n 0, 1) := by decide +kernel
theorem dX6_lines_2 : decode cX6_lines 2 = .ok (.iload_n 1, 1) := by decide +kernel
theorem dX6_lines_3 : decode cX6_lines 3 = .ok (.invokevirtual 171, 3) := by decide +kernel
theorem dX6_lines_6 : decode cX6_lines 6 = .ok (.ifCond .eq 7, 3) := by decide +kernel
theorem dX6_lines_9 : decode cX6_lines 9 = .ok (.iconst 0, 1) := by decide +kernel
theorem dX6_lines_10 : decode cX6_lines 10 = .ok (.goto 4, 3) := by decide +kernel
theorem dX6_lines_13 : decode cX6_lines 13 = .ok (.iconst 1, 1) := by decide +kernel
theorem dX6_lines_14 : decode cX6_lines 14 = .ok (.invokevirtual 84, 3) := by decide +kernel
theorem dX6_lines_17 : decode cX6_lines 17 = .ok (.ifCond .ne 5, 3) := by decide +kernel
theorem dX6_lines_20 : decode cX6_lines 20 = .ok (.iconst 0, 1) := by decide +kernel
theorem dX6_lines_21 : decode cX6_lines 21 = .ok (.ireturn, 1) := by decide +kernel
theorem dX6_lines_22 : decode cX6_lines 22 = .ok (.aload_n 0, 1) := by decide +kernel
theorem dX6_lines_23 : decode cX6_lines 23 = .ok (.iload_n 1, 1) := by decide +kernel
theorem dX6_lines_24 : decode cX6_lines 24 = .ok (.iconst (-1), 1) := by decide +kernel
theorem dX6_lines_25 : decode cX6_lines 25 = .ok (.invokevirtual 187, 3) := by decide +kernel
theorem dX6_lines_28 : decode cX6_lines 28 = .ok (.istore_n 2, 1) := by decide +kernel
theorem dX6_lines_29 : decode cX6_lines 29 = .ok (.aload_n 0, 1) := by decide +kernel
theorem dX6_lines_30 : decode cX6_lines 30 = .ok (.getfield 177, 3) := by decide +kernel
theorem dX6_lines_33 : decode cX6_lines 33 = .ok (.ireturn, 1) := by decide +kernel
theorem dX6_lineAt_0 : decode cX6_lineAt 0 = .ok (.aload_n 0, 1) := by decide +kernel
theorem dX6_lineAt_1 : decode cX6_lineAt 1 = .ok (.iload_n 1, 1) := by decide +kernel
theorem dX6_lineAt_2 : decode cX6_lineAt 2 = .ok (.invokevirtual 171, 3) := by decide +kernel
theorem dX6_lineAt_5 : decode cX6_lineAt 5 = .ok (.istore 4, 2) := by decide +kernel
theorem dX6_lineAt_7 : decode cX6_lineAt 7 = .ok (.iload 4, 2) := by decide +kernel
theorem dX6_lineAt_9 : decode cX6_lineAt 9 = .ok (.ifCond .eq 12, 3) := by decide +kernel
theorem dX6_lineAt_12 : decode cX6_lineAt 12 = .ok (.aload_n 0, 1) := by decide +kernel
theorem dX6_lineAt_13 : decode cX6_lineAt 13 = .ok (.iload_n 1, 1) := by decide +kernel
theorem dX6_lineAt_14 : decode cX6_lineAt 14 = .ok (.iconst (-1), 1) := by decide +kernel
theorem dX6_lineAt_15 : decode cX6_lineAt 15 = .ok (.invokevirtual 187, 3) := by decide +kernel
theorem dX6_lineAt_18 : decode cX6_lineAt 18 = .ok (.goto 4, 3) := by decide +kernel
theorem dX6_lineAt_21 : decode cX6_lineAt 21 = .ok (.iconst (-1), 1) := by decide +kernel
theorem dX6_lineAt_22 : decode cX6_lineAt 22 = .ok (.istore 5, 2) := by decide +kernel
theorem dX6_lineAt_24 : decode cX6_lineAt 24 = .ok (.iload 4, 2) := by decide +kernel
theorem dX6_lineAt_26 : decode cX6_lineAt 26 = .ok (.ifCond .eq 21, 3) := by decide +kernel
theorem dX6_lineAt_29 : decode cX6_lineAt 29 = .ok (.iload_n 2, 1) := by decide +kernel
theorem dX6_lineAt_30 : decode cX6_lineAt 30 = .ok (.iconst 0, 1) := by decide +kernel
theorem dX6_lineAt_31 : decode cX6_lineAt 31 = .ok (.aload_n 0, 1) := by decide +kernel
theorem dX6_lineAt_32 : decode cX6_lineAt 32 = .ok (.getfield 177, 3) := by decide +kernel
theorem dX6_lineAt_35 : decode cX6_lineAt 35 = .ok (.iconst 1, 1) := by decide +kernel
theorem dX6_lineAt_36 : decode cX6_lineAt 36 = .ok (.isub, 1) := by decide +kernel
theorem dX6_lineAt_37 : decode cX6_lineAt 37 = .ok (.invokestatic 77, 3) := by decide +kernel
theorem dX6_lineAt_40 : decode cX6_lineAt 40 = .ok (.ifCond .eq 7, 3) := by decide +kernel
theorem dX6_lineAt_43 : decode cX6_lineAt 43 = .ok (.iconst 1, 1) := by decide +kernel
theorem dX6_lineAt_44 : decode cX6_lineAt 44 = .ok (.goto 4, 3) := by decide +kernel
theorem dX6_lineAt_47 : decode cX6_lineAt 47 = .ok (.iconst 0, 1) := by decide +kernel
theorem dX6_lineAt_48 : decode cX6_lineAt 48 = .ok (.istore 6, 2) := by decide +kernel
theorem dX6_lineAt_50 : decode cX6_lineAt 50 = .ok (.aload_n 0, 1) := by decide +kernel
theorem dX6_lineAt_51 : decode cX6_lineAt 51 = .ok (.iload 6, 2) := by decide +kernel
theorem dX6_lineAt_53 : decode cX6_lineAt 53 = .ok (.ifCond .ne 7, 3) := by decide +kernel
theorem dX6_lineAt_56 : decode cX6_lineAt 56 = .ok (.iconst 1, 1) := by decide +kernel
theorem dX6_lineAt_57 : decode cX6_lineAt 57 = .ok (.goto 24, 3) := by decide +kernel
theorem dX6_lineAt_60 : decode cX6_lineAt 60 = .ok (.iload_n 3, 1) := by decide +kernel
theorem dX6_lineAt_61 : decode cX6_lineAt 61 = .ok (.iconst 0, 1) := by decide +kernel
theorem dX6_lineAt_62 : decode cX6_lineAt 62 = .ok (.aload_n 0, 1) := by decide +kernel
theorem dX6_lineAt_63 : decode cX6_lineAt 63 = .ok (.getfield 71, 3) := by decide +kernel
theorem dX6_lineAt_66 : decode cX6_lineAt 66 = .ok (.iload_n 2, 1) := by decide +kernel
theorem dX6_lineAt_67 : decode cX6_lineAt 67 = .ok (.iaload, 1) := by decide +kernel
theorem dX6_lineAt_68 : decode cX6_lineAt 68 = .ok (.iconst 1, 1) := by decide +kernel
theorem dX6_lineAt_69 : decode cX6_lineAt 69 = .ok (.isub, 1) := by decide +kernel
theorem dX6_lineAt_70 : decode cX6_lineAt 70 = .ok (.invokestatic 77, 3) := by decide +kernel
theorem dX6_lineAt_73 : decode cX6_lineAt 73 = .ok (.ifCond .ne 7, 3) := by decide +kernel
theorem dX6_lineAt_76 : decode cX6_lineAt 76 = .ok (.iconst 2, 1) := by decide +kernel
theorem dX6_lineAt_77 : decode cX6_lineAt 77 = .ok (.goto 4, 3) := by decide +kernel
theorem dX6_lineAt_80 : decode cX6_lineAt 80 = .ok (.iconst 0, 1) := by decide +kernel
theorem dX6_lineAt_81 : decode cX6_lineAt 81 = .ok (.invokevirtual 84, 3) := by decide +kernel
theorem dX6_lineAt_84 : decode cX6_lineAt 84 = .ok (.ifCond .eq 17, 3) := by decide +kernel
theorem dX6_lineAt_87 : decode cX6_lineAt 87 = .ok (.aload_n 0, 1) := by decide +kernel
theorem dX6_lineAt_88 : decode cX6_lineAt 88 = .ok (.getfield 68, 3) := by decide +kernel
theorem dX6_lineAt_91 : decode cX6_lineAt 91 = .ok (.bipush 40, 2) := by decide +kernel
theorem dX6_lineAt_93 : decode cX6_lineAt 93 = .ok (.iload_n 2, 1) := by decide +kernel
theorem dX6_lineAt_94 : decode cX6_lineAt 94 = .ok (.imul, 1) := by decide +kernel
theorem dX6_lineAt_95 : decode cX6_lineAt 95 = .ok (.iload_n 3, 1) := by decide +kernel
theorem dX6_lineAt_96 : decode cX6_lineAt 96 = .ok (.iadd, 1) := by decide +kernel
theorem dX6_lineAt_97 : decode cX6_lineAt 97 = .ok (.iaload, 1) := by decide +kernel
theorem dX6_lineAt_98 : decode cX6_lineAt 98 = .ok (.goto 4, 3) := by decide +kernel
theorem dX6_lineAt_101 : decode cX6_lineAt 101 = .ok (.iconst 0, 1) := by decide +kernel
theorem dX6_lineAt_102 : decode cX6_lineAt 102 = .ok (.ireturn, 1) := by decide +kernel
theorem dX6_lineOf_0 : decode cX6_lineOf 0 = .ok (.aload_n 0, 1) := by decide +kernel
theorem dX6_lineOf_1 : decode cX6_lineOf 1 = .ok (.aload_n 0, 1) := by decide +kernel
theorem dX6_lineOf_2 : decode cX6_lineOf 2 = .ok (.iload_n 1, 1) := by decide +kernel
theorem dX6_lineOf_3 : decode cX6_lineOf 3 = .ok (.iload_n 2, 1) := by decide +kernel
theorem dX6_lineOf_4 : decode cX6_lineOf 4 = .ok (.invokevirtual 174, 3) := by decide +kernel
theorem dX6_lineOf_7 : decode cX6_lineOf 7 = .ok (.ifCond .eq 7, 3) := by decide +kernel
theorem dX6_lineOf_10 : decode cX6_lineOf 10 = .ok (.iconst 0, 1) := by decide +kernel
theorem dX6_lineOf_11 : decode cX6_lineOf 11 = .ok (.goto 4, 3) := by decide +kernel
theorem dX6_lineOf_14 : decode cX6_lineOf 14 = .ok (.iconst 1, 1) := by decide +kernel
theorem dX6_lineOf_15 : decode cX6_lineOf 15 = .ok (.invokevirtual 84, 3) := by decide +kernel
theorem dX6_lineOf_18 : decode cX6_lineOf 18 = .ok (.ifCond .eq 12, 3) := by decide +kernel
theorem dX6_lineOf_21 : decode cX6_lineOf 21 = .ok (.aload_n 0, 1) := by decide +kernel
theorem dX6_lineOf_22 : decode cX6_lineOf 22 = .ok (.iload_n 1, 1) := by decide +kernel
theorem dX6_lineOf_23 : decode cX6_lineOf 23 = .ok (.iload_n 2, 1) := by decide +kernel
theorem dX6_lineOf_24 : decode cX6_lineOf 24 = .ok (.invokevirtual 187, 3) := by decide +kernel
theorem dX6_lineOf_27 : decode cX6_lineOf 27 = .ok (.goto 4, 3) := by decide +kernel
theorem dX6_lineOf_30 : decode cX6_lineOf 30 = .ok (.iconst 0, 1) := by decide +kernel
theorem dX6_lineOf_31 : decode cX6_lineOf 31 = .ok (.ireturn, 1) := by decide +kernel
theorem dX6_isEmbossed_0 : decode cX6_isEmbossed 0 = .ok (.bipush 100, 2) := by decide +kernel
theorem dX6_isEmbossed_2 : decode cX6_isEmbossed 2 = .ok (.iload_n 1, 1) := by decide +kernel
theorem dX6_isEmbossed_3 : decode cX6_isEmbossed 3 = .ok (.imul, 1) := by decide +kernel
theorem dX6_isEmbossed_4 : decode cX6_isEmbossed 4 = .ok (.iload_n 2, 1) := by decide +kernel
theorem dX6_isEmbossed_5 : decode cX6_isEmbossed 5 = .ok (.iadd, 1) := by decide +kernel
theorem dX6_isEmbossed_6 : decode cX6_isEmbossed 6 = .ok (.istore_n 3, 1) := by decide +kernel
theorem dX6_isEmbossed_7 : decode cX6_isEmbossed 7 = .ok (.iload_n 2, 1) := by decide +kernel
theorem dX6_isEmbossed_8 : decode cX6_isEmbossed 8 = .ok (.aload_n 0, 1) := by decide +kernel
theorem dX6_isEmbossed_9 : decode cX6_isEmbossed 9 = .ok (.getfield 50, 3) := by decide +kernel
theorem dX6_isEmbossed_12 : decode cX6_isEmbossed 12 = .ok (.iload_n 1, 1) := by decide +kernel
theorem dX6_isEmbossed_13 : decode cX6_isEmbossed 13 = .ok (.iaload, 1) := by decide +kernel
theorem dX6_isEmbossed_14 : decode cX6_isEmbossed 14 = .ok (.if_icmp .ge 22, 3) := by decide +kernel
theorem dX6_isEmbossed_17 : decode cX6_isEmbossed 17 = .ok (.aload_n 0, 1) := by decide +kernel
theorem dX6_isEmbossed_18 : decode cX6_isEmbossed 18 = .ok (.getfield 47, 3) := by decide +kernel
theorem dX6_isEmbossed_21 : decode cX6_isEmbossed 21 = .ok (.iload_n 3, 1) := by decide +kernel
theorem dX6_isEmbossed_22 : decode cX6_isEmbossed 22 = .ok (.iaload, 1) := by decide +kernel
theorem dX6_isEmbossed_23 : decode cX6_isEmbossed 23 = .ok (.aload_n 0, 1) := by decide +kernel
theorem dX6_isEmbossed_24 : decode cX6_isEmbossed 24 = .ok (.getfield 71, 3) := by decide +kernel
theorem dX6_isEmbossed_27 : decode cX6_isEmbossed 27 = .ok (.iload_n 2, 1) := by decide +kernel
theorem dX6_isEmbossed_28 : decode cX6_isEmbossed 28 = .ok (.iaload, 1) := by decide +kernel
theorem dX6_isEmbossed_29 : decode cX6_isEmbossed 29 = .ok (.if_icmp .ne 7, 3) := by decide +kernel
theorem dX6_isEmbossed_32 : decode cX6_isEmbossed 32 = .ok (.iconst 1, 1) := by decide +kernel
theorem dX6_isEmbossed_33 : decode cX6_isEmbossed 33 = .ok (.goto 4, 3) := by decide +kernel
theorem dX6_isEmbossed_36 : decode cX6_isEmbossed 36 = .ok (.iconst 0, 1) := by decide +kernel
theorem dX6_isEmbossed_37 : decode cX6_isEmbossed 37 = .ok (.istore 4, 2) := by decide +kernel
theorem dX6_isEmbossed_39 : decode cX6_isEmbossed 39 = .ok (.iconst 0, 1) := by decide +kernel
theorem dX6_isEmbossed_40 : decode cX6_isEmbossed 40 = .ok (.istore 5, 2) := by decide +kernel
theorem dX6_isEmbossed_42 : decode cX6_isEmbossed 42 = .ok (.iload 5, 2) := by decide +kernel
theorem dX6_isEmbossed_44 : decode cX6_isEmbossed 44 = .ok (.aload_n 0, 1) := by decide +kernel
theorem dX6_isEmbossed_45 : decode cX6_isEmbossed 45 = .ok (.getfield 71, 3) := by decide +kernel
theorem dX6_isEmbossed_48 : decode cX6_isEmbossed 48 = .ok (.iload_n 2, 1) := by decide +kernel
theorem dX6_isEmbossed_49 : decode cX6_isEmbossed 49 = .ok (.iaload, 1) := by decide +kernel
theorem dX6_isEmbossed_50 : decode cX6_isEmbossed 50 = .ok (.if_icmp .ge 48, 3) := by decide +kernel
theorem dX6_isEmbossed_53 : decode cX6_isEmbossed 53 = .ok (.iload 4, 2) := by decide +kernel
theorem dX6_isEmbossed_55 : decode cX6_isEmbossed 55 = .ok (.ifCond .eq 43, 3) := by decide +kernel
theorem dX6_isEmbossed_58 : decode cX6_isEmbossed 58 = .ok (.aload_n 0, 1) := by decide +kernel
theorem dX6_isEmbossed_59 : decode cX6_isEmbossed 59 = .ok (.getfield 44, 3) := by decide +kernel
theorem dX6_isEmbossed_62 : decode cX6_isEmbossed 62 = .ok (.bipush 40, 2) := by decide +kernel
theorem dX6_isEmbossed_64 : decode cX6_isEmbossed 64 = .ok (.iload_n 3, 1) := by decide +kernel
theorem dX6_isEmbossed_65 : decode cX6_isEmbossed 65 = .ok (.imul, 1) := by decide +kernel
theorem dX6_isEmbossed_66 : decode cX6_isEmbossed 66 = .ok (.iload 5, 2) := by decide +kernel
theorem dX6_isEmbossed_68 : decode cX6_isEmbossed 68 = .ok (.iadd, 1) := by decide +kernel
theorem dX6_isEmbossed_69 : decode cX6_isEmbossed 69 = .ok (.iaload, 1) := by decide +kernel
theorem dX6_isEmbossed_70 : decode cX6_isEmbossed 70 = .ok (.aload_n 0, 1) := by decide +kernel
theorem dX6_isEmbossed_71 : decode cX6_isEmbossed 71 = .ok (.getfield 68, 3) := by decide +kernel
theorem dX6_isEmbossed_74 : decode cX6_isEmbossed 74 = .ok (.bipush 40, 2) := by decide +kernel
theorem dX6_isEmbossed_76 : decode cX6_isEmbossed 76 = .ok (.iload_n 2, 1) := by decide +kernel
theorem dX6_isEmbossed_77 : decode cX6_isEmbossed 77 = .ok (.imul, 1) := by decide +kernel
theorem dX6_isEmbossed_78 : decode cX6_isEmbossed 78 = .ok (.iload 5, 2) := by decide +kernel
theorem dX6_isEmbossed_80 : decode cX6_isEmbossed 80 = .ok (.iadd, 1) := by decide +kernel
theorem dX6_isEmbossed_81 : decode cX6_isEmbossed 81 = .ok (.iaload, 1) := by decide +kernel
theorem dX6_isEmbossed_82 : decode cX6_isEmbossed 82 = .ok (.if_icmp .ne 7, 3) := by decide +kernel
theorem dX6_isEmbossed_85 : decode cX6_isEmbossed 85 = .ok (.iconst 1, 1) := by decide +kernel
theorem dX6_isEmbossed_86 : decode cX6_isEmbossed 86 = .ok (.goto 4, 3) := by decide +kernel
theorem dX6_isEmbossed_89 : decode cX6_isEmbossed 89 = .ok (.iconst 0, 1) := by decide +kernel
theorem dX6_isEmbossed_90 : decode cX6_isEmbossed 90 = .ok (.istore 4, 2) := by decide +kernel
theorem dX6_isEmbossed_92 : decode cX6_isEmbossed 92 = .ok (.iinc 5 1, 3) := by decide +kernel
theorem dX6_isEmbossed_95 : decode cX6_isEmbossed 95 = .ok (.goto (-53), 3) := by decide +kernel
theorem dX6_isEmbossed_98 : decode cX6_isEmbossed 98 = .ok (.iload 4, 2) := by decide +kernel
theorem dX6_isEmbossed_100 : decode cX6_isEmbossed 100 = .ok (.ireturn, 1) := by decide +kernel
theorem dX6_due_0 : decode cX6_due 0 = .ok (.iconst 0, 1) := by decide +kernel
theorem dX6_due_1 : decode cX6_due 1 = .ok (.istore_n 3, 1) := by decide +kernel
theorem dX6_due_2 : decode cX6_due 2 = .ok (.iconst 0, 1) := by decide +kernel
theorem dX6_due_3 : decode cX6_due 3 = .ok (.istore 4, 2) := by decide +kernel
theorem dX6_due_5 : decode cX6_due 5 = .ok (.iload 4, 2) := by decide +kernel
theorem dX6_due_7 : decode cX6_due 7 = .ok (.aload_n 0, 1) := by decide +kernel
theorem dX6_due_8 : decode cX6_due 8 = .ok (.getfield 177, 3) := by decide +kernel
theorem dX6_due_11 : decode cX6_due 11 = .ok (.if_icmp .ge 60, 3) := by decide +kernel
theorem dX6_due_14 : decode cX6_due 14 = .ok (.iconst 0, 1) := by decide +kernel
theorem dX6_due_15 : decode cX6_due 15 = .ok (.istore 5, 2) := by decide +kernel
theorem dX6_due_17 : decode cX6_due 17 = .ok (.iload 5, 2) := by decide +kernel
theorem dX6_due_19 : decode cX6_due 19 = .ok (.aload_n 0, 1) := by decide +kernel
theorem dX6_due_20 : decode cX6_due 20 = .ok (.getfield 71, 3) := by decide +kernel
theorem dX6_due_23 : decode cX6_due 23 = .ok (.iload 4, 2) := by decide +kernel
theorem dX6_due_25 : decode cX6_due 25 = .ok (.iaload, 1) := by decide +kernel
theorem dX6_due_26 : decode cX6_due 26 = .ok (.if_icmp .ge 39, 3) := by decide +kernel
theorem dX6_due_29 : decode cX6_due 29 = .ok (.aload_n 0, 1) := by decide +kernel
theorem dX6_due_30 : decode cX6_due 30 = .ok (.iload_n 1, 1) := by decide +kernel
theorem dX6_due_31 : decode cX6_due 31 = .ok (.iload 4, 2) := by decide +kernel
theorem dX6_due_33 : decode cX6_due 33 = .ok (.invokevirtual 190, 3) := by decide +kernel
theorem dX6_due_36 : decode cX6_due 36 = .ok (.ifCond .ne 29, 3) := by decide +kernel
theorem dX6_due_39 : decode cX6_due 39 = .ok (.iload_n 3, 1) := by decide +kernel
theorem dX6_due_40 : decode cX6_due 40 = .ok (.aload_n 0, 1) := by decide +kernel
theorem dX6_due_41 : decode cX6_due 41 = .ok (.getfield 68, 3) := by decide +kernel
theorem dX6_due_44 : decode cX6_due 44 = .ok (.bipush 40, 2) := by decide +kernel
theorem dX6_due_46 : decode cX6_due 46 = .ok (.iload 4, 2) := by decide +kernel
theorem dX6_due_48 : decode cX6_due 48 = .ok (.imul, 1) := by decide +kernel
theorem dX6_due_49 : decode cX6_due 49 = .ok (.iload 5, 2) := by decide +kernel
theorem dX6_due_51 : decode cX6_due 51 = .ok (.iadd, 1) := by decide +kernel
theorem dX6_due_52 : decode cX6_due 52 = .ok (.iaload, 1) := by decide +kernel
theorem dX6_due_53 : decode cX6_due 53 = .ok (.iload_n 2, 1) := by decide +kernel
theorem dX6_due_54 : decode cX6_due 54 = .ok (.ishr, 1) := by decide +kernel
theorem dX6_due_55 : decode cX6_due 55 = .ok (.iconst 1, 1) := by decide +kernel
theorem dX6_due_56 : decode cX6_due 56 = .ok (.iand, 1) := by decide +kernel
theorem dX6_due_57 : decode cX6_due 57 = .ok (.iadd, 1) := by decide +kernel
theorem dX6_due_58 : decode cX6_due 58 = .ok (.istore_n 3, 1) := by decide +kernel
theorem dX6_due_59 : decode cX6_due 59 = .ok (.iinc 5 1, 3) := by decide +kernel
theorem dX6_due_62 : decode cX6_due 62 = .ok (.goto (-45), 3) := by decide +kernel
theorem dX6_due_65 : decode cX6_due 65 = .ok (.iinc 4 1, 3) := by decide +kernel
theorem dX6_due_68 : decode cX6_due 68 = .ok (.goto (-63), 3) := by decide +kernel
theorem dX6_due_71 : decode cX6_due 71 = .ok (.iload_n 3, 1) := by decide +kernel
theorem dX6_due_72 : decode cX6_due 72 = .ok (.ireturn, 1) := by decide +kernel
theorem dX6_isWorn_0 : decode cX6_isWorn 0 = .ok (.iconst 0, 1) := by decide +kernel
theorem dX6_isWorn_1 : decode cX6_isWorn 1 = .ok (.istore_n 2, 1) := by decide +kernel
theorem dX6_isWorn_2 : decode cX6_isWorn 2 = .ok (.iconst 0, 1) := by decide +kernel
theorem dX6_isWorn_3 : decode cX6_isWorn 3 = .ok (.istore_n 3, 1) := by decide +kernel
theorem dX6_isWorn_4 : decode cX6_isWorn 4 = .ok (.iload_n 3, 1) := by decide +kernel
theorem dX6_isWorn_5 : decode cX6_isWorn 5 = .ok (.bipush 6, 2) := by decide +kernel
theorem dX6_isWorn_7 : decode cX6_isWorn 7 = .ok (.if_icmp .ge 48, 3) := by decide +kernel
theorem dX6_isWorn_10 : decode cX6_isWorn 10 = .ok (.aload_n 0, 1) := by decide +kernel
theorem dX6_isWorn_11 : decode cX6_isWorn 11 = .ok (.iload_n 1, 1) := by decide +kernel
theorem dX6_isWorn_12 : decode cX6_isWorn 12 = .ok (.iload_n 3, 1) := by decide +kernel
theorem dX6_isWorn_13 : decode cX6_isWorn 13 = .ok (.invokevirtual 193, 3) := by decide +kernel
theorem dX6_isWorn_16 : decode cX6_isWorn 16 = .ok (.istore 4, 2) := by decide +kernel
theorem dX6_isWorn_18 : decode cX6_isWorn 18 = .ok (.iload_n 2, 1) := by decide +kernel
theorem dX6_isWorn_19 : decode cX6_isWorn 19 = .ok (.ifCond .ne 24, 3) := by decide +kernel
theorem dX6_isWorn_22 : decode cX6_isWorn 22 = .ok (.iload 4, 2) := by decide +kernel
theorem dX6_isWorn_24 : decode cX6_isWorn 24 = .ok (.ifCond .le 23, 3) := by decide +kernel
theorem dX6_isWorn_27 : decode cX6_isWorn 27 = .ok (.aload_n 0, 1) := by decide +kernel
theorem dX6_isWorn_28 : decode cX6_isWorn 28 = .ok (.getfield 59, 3) := by decide +kernel
theorem dX6_isWorn_31 : decode cX6_isWorn 31 = .ok (.iload_n 3, 1) := by decide +kernel
theorem dX6_isWorn_32 : decode cX6_isWorn 32 = .ok (.iaload, 1) := by decide +kernel
theorem dX6_isWorn_33 : decode cX6_isWorn 33 = .ok (.iload 4, 2) := by decide +kernel
theorem dX6_isWorn_35 : decode cX6_isWorn 35 = .ok (.iadd, 1) := by decide +kernel
theorem dX6_isWorn_36 : decode cX6_isWorn 36 = .ok (.aload_n 0, 1) := by decide +kernel
theorem dX6_isWorn_37 : decode cX6_isWorn 37 = .ok (.getfield 56, 3) := by decide +kernel
theorem dX6_isWorn_40 : decode cX6_isWorn 40 = .ok (.if_icmp .le 7, 3) := by decide +kernel
theorem dX6_isWorn_43 : decode cX6_isWorn 43 = .ok (.iconst 1, 1) := by decide +kernel
theorem dX6_isWorn_44 : decode cX6_isWorn 44 = .ok (.goto 4, 3) := by decide +kernel
theorem dX6_isWorn_47 : decode cX6_isWorn 47 = .ok (.iconst 0, 1) := by decide +kernel
theorem dX6_isWorn_48 : decode cX6_isWorn 48 = .ok (.istore_n 2, 1) := by decide +kernel
theorem dX6_isWorn_49 : decode cX6_isWorn 49 = .ok (.iinc 3 1, 3) := by decide +kernel
theorem dX6_isWorn_52 : decode cX6_isWorn 52 = .ok (.goto (-48), 3) := by decide +kernel
theorem dX6_isWorn_55 : decode cX6_isWorn 55 = .ok (.iload_n 2, 1) := by decide +kernel
theorem dX6_isWorn_56 : decode cX6_isWorn 56 = .ok (.ireturn, 1) := by decide +kernel
theorem dX6_emboss_0 : decode cX6_emboss 0 = .ok (.aload_n 0, 1) := by decide +kernel
theorem dX6_emboss_1 : decode cX6_emboss 1 = .ok (.iload_n 1, 1) := by decide +kernel
theorem dX6_emboss_2 : decode cX6_emboss 2 = .ok (.invokevirtual 171, 3) := by decide +kernel
theorem dX6_emboss_5 : decode cX6_emboss 5 = .ok (.istore_n 2, 1) := by decide +kernel
theorem dX6_emboss_6 : decode cX6_emboss 6 = .ok (.iload_n 2, 1) := by decide +kernel
theorem dX6_emboss_7 : decode cX6_emboss 7 = .ok (.ifCond .eq 12, 3) := by decide +kernel
theorem dX6_emboss_10 : decode cX6_emboss 10 = .ok (.aload_n 0, 1) := by decide +kernel
theorem dX6_emboss_11 : decode cX6_emboss 11 = .ok (.iload_n 1, 1) := by decide +kernel
theorem dX6_emboss_12 : decode cX6_emboss 12 = .ok (.iconst (-1), 1) := by decide +kernel
theorem dX6_emboss_13 : decode cX6_emboss 13 = .ok (.invokevirtual 187, 3) := by decide +kernel
theorem dX6_emboss_16 : decode cX6_emboss 16 = .ok (.goto 4, 3) := by decide +kernel
theorem dX6_emboss_19 : decode cX6_emboss 19 = .ok (.iconst (-1), 1) := by decide +kernel
theorem dX6_emboss_20 : decode cX6_emboss 20 = .ok (.istore_n 3, 1) := by decide +kernel
theorem dX6_emboss_21 : decode cX6_emboss 21 = .ok (.aload_n 0, 1) := by decide +kernel
theorem dX6_emboss_22 : decode cX6_emboss 22 = .ok (.iload_n 2, 1) := by decide +kernel
theorem dX6_emboss_23 : decode cX6_emboss 23 = .ok (.ifCond .ne 7, 3) := by decide +kernel
theorem dX6_emboss_26 : decode cX6_emboss 26 = .ok (.iconst 1, 1) := by decide +kernel
theorem dX6_emboss_27 : decode cX6_emboss 27 = .ok (.goto 16, 3) := by decide +kernel
theorem dX6_emboss_30 : decode cX6_emboss 30 = .ok (.aload_n 0, 1) := by decide +kernel
theorem dX6_emboss_31 : decode cX6_emboss 31 = .ok (.iload_n 1, 1) := by decide +kernel
theorem dX6_emboss_32 : decode cX6_emboss 32 = .ok (.invokevirtual 196, 3) := by decide +kernel
theorem dX6_emboss_35 : decode cX6_emboss 35 = .ok (.ifCond .eq 7, 3) := by decide +kernel
theorem dX6_emboss_38 : decode cX6_emboss 38 = .ok (.iconst 2, 1) := by decide +kernel
theorem dX6_emboss_39 : decode cX6_emboss 39 = .ok (.goto 4, 3) := by decide +kernel
theorem dX6_emboss_42 : decode cX6_emboss 42 = .ok (.iconst 0, 1) := by decide +kernel
theorem dX6_emboss_43 : decode cX6_emboss 43 = .ok (.invokevirtual 84, 3) := by decide +kernel
theorem dX6_emboss_46 : decode cX6_emboss 46 = .ok (.ifCond .ne 5, 3) := by decide +kernel
theorem dX6_emboss_49 : decode cX6_emboss 49 = .ok (.iconst 0, 1) := by decide +kernel
theorem dX6_emboss_50 : decode cX6_emboss 50 = .ok (.ireturn, 1) := by decide +kernel
theorem dX6_emboss_51 : decode cX6_emboss 51 = .ok (.iconst 0, 1) := by decide +kernel
theorem dX6_emboss_52 : decode cX6_emboss 52 = .ok (.istore 4, 2) := by decide +kernel
theorem dX6_emboss_54 : decode cX6_emboss 54 = .ok (.iload 4, 2) := by decide +kernel
theorem dX6_emboss_56 : decode cX6_emboss 56 = .ok (.bipush 6, 2) := by decide +kernel
theorem dX6_emboss_58 : decode cX6_emboss 58 = .ok (.if_icmp .ge 26, 3) := by decide +kernel
theorem dX6_emboss_61 : decode cX6_emboss 61 = .ok (.aload_n 0, 1) := by decide +kernel
theorem dX6_emboss_62 : decode cX6_emboss 62 = .ok (.getfield 59, 3) := by decide +kernel
theorem dX6_emboss_65 : decode cX6_emboss 65 = .ok (.iload 4, 2) := by decide +kernel
theorem dX6_emboss_67 : decode cX6_emboss 67 = .ok (.dup2, 1) := by decide +kernel
theorem dX6_emboss_68 : decode cX6_emboss 68 = .ok (.iaload, 1) := by decide +kernel
theorem dX6_emboss_69 : decode cX6_emboss 69 = .ok (.aload_n 0, 1) := by decide +kernel
theorem dX6_emboss_70 : decode cX6_emboss 70 = .ok (.iload_n 1, 1) := by decide +kernel
theorem dX6_emboss_71 : decode cX6_emboss 71 = .ok (.iload 4, 2) := by decide +kernel
theorem dX6_emboss_73 : decode cX6_emboss 73 = .ok (.invokevirtual 193, 3) := by decide +kernel
theorem dX6_emboss_76 : decode cX6_emboss 76 = .ok (.iadd, 1) := by decide +kernel
theorem dX6_emboss_77 : decode cX6_emboss 77 = .ok (.iastore, 1) := by decide +kernel
theorem dX6_emboss_78 : decode cX6_emboss 78 = .ok (.iinc 4 1, 3) := by decide +kernel
theorem dX6_emboss_81 : decode cX6_emboss 81 = .ok (.goto (-27), 3) := by decide +kernel
theorem dX6_emboss_84 : decode cX6_emboss 84 = .ok (.iconst 0, 1) := by decide +kernel
theorem dX6_emboss_85 : decode cX6_emboss 85 = .ok (.istore 4, 2) := by decide +kernel
theorem dX6_emboss_87 : decode cX6_emboss 87 = .ok (.iconst 0, 1) := by decide +kernel
theorem dX6_emboss_88 : decode cX6_emboss 88 = .ok (.istore 5, 2) := by decide +kernel
theorem dX6_emboss_90 : decode cX6_emboss 90 = .ok (.iconst (-1), 1) := by decide +kernel
theorem dX6_emboss_91 : decode cX6_emboss 91 = .ok (.istore 6, 2) := by decide +kernel
theorem dX6_emboss_93 : decode cX6_emboss 93 = .ok (.iconst 0, 1) := by decide +kernel
theorem dX6_emboss_94 : decode cX6_emboss 94 = .ok (.istore 7, 2) := by decide +kernel
theorem dX6_emboss_96 : decode cX6_emboss 96 = .ok (.iload 7, 2) := by decide +kernel
theorem dX6_emboss_98 : decode cX6_emboss 98 = .ok (.aload_n 0, 1) := by decide +kernel
theorem dX6_emboss_99 : decode cX6_emboss 99 = .ok (.getfield 177, 3) := by decide +kernel
theorem dX6_emboss_102 : decode cX6_emboss 102 = .ok (.if_icmp .ge 47, 3) := by decide +kernel
theorem dX6_emboss_105 : decode cX6_emboss 105 = .ok (.aload_n 0, 1) := by decide +kernel
theorem dX6_emboss_106 : decode cX6_emboss 106 = .ok (.iload_n 1, 1) := by decide +kernel
theorem dX6_emboss_107 : decode cX6_emboss 107 = .ok (.iload 7, 2) := by decide +kernel
theorem dX6_emboss_109 : decode cX6_emboss 109 = .ok (.invokevirtual 190, 3) := by decide +kernel
theorem dX6_emboss_112 : decode cX6_emboss 112 = .ok (.ifCond .ne 31, 3) := by decide +kernel
theorem dX6_emboss_115 : decode cX6_emboss 115 = .ok (.iinc 4 1, 3) := by decide +kernel
theorem dX6_emboss_118 : decode cX6_emboss 118 = .ok (.iload 5, 2) := by decide +kernel
theorem dX6_emboss_120 : decode cX6_emboss 120 = .ok (.iload 7, 2) := by decide +kernel
theorem dX6_emboss_122 : decode cX6_emboss 122 = .ok (.iconst 4, 1) := by decide +kernel
theorem dX6_emboss_123 : decode cX6_emboss 123 = .ok (.idiv, 1) := by decide +kernel
theorem dX6_emboss_124 : decode cX6_emboss 124 = .ok (.iload 6, 2) := by decide +kernel
theorem dX6_emboss_126 : decode cX6_emboss 126 = .ok (.if_icmp .eq 7, 3) := by decide +kernel
theorem dX6_emboss_129 : decode cX6_emboss 129 = .ok (.iconst 1, 1) := by decide +kernel
theorem dX6_emboss_130 : decode cX6_emboss 130 = .ok (.goto 4, 3) := by decide +kernel
theorem dX6_emboss_133 : decode cX6_emboss 133 = .ok (.iconst 0, 1) := by decide +kernel
theorem dX6_emboss_134 : decode cX6_emboss 134 = .ok (.iadd, 1) := by decide +kernel
theorem dX6_emboss_135 : decode cX6_emboss 135 = .ok (.istore 5, 2) := by decide +kernel
theorem dX6_emboss_137 : decode cX6_emboss 137 = .ok (.iload 7, 2) := by decide +kernel
theorem dX6_emboss_139 : decode cX6_emboss 139 = .ok (.iconst 4, 1) := by decide +kernel
theorem dX6_emboss_140 : decode cX6_emboss 140 = .ok (.idiv, 1) := by decide +kernel
theorem dX6_emboss_141 : decode cX6_emboss 141 = .ok (.istore 6, 2) := by decide +kernel
theorem dX6_emboss_143 : decode cX6_emboss 143 = .ok (.iinc 7 1, 3) := by decide +kernel
theorem dX6_emboss_146 : decode cX6_emboss 146 = .ok (.goto (-50), 3) := by decide +kernel
theorem dX6_emboss_149 : decode cX6_emboss 149 = .ok (.iconst 0, 1) := by decide +kernel
theorem dX6_emboss_150 : decode cX6_emboss 150 = .ok (.istore 7, 2) := by decide +kernel
theorem dX6_emboss_152 : decode cX6_emboss 152 = .ok (.iload 7, 2) := by decide +kernel
theorem dX6_emboss_154 : decode cX6_emboss 154 = .ok (.aload_n 0, 1) := by decide +kernel
theorem dX6_emboss_155 : decode cX6_emboss 155 = .ok (.getfield 177, 3) := by decide +kernel
theorem dX6_emboss_158 : decode cX6_emboss 158 = .ok (.if_icmp .ge 80, 3) := by decide +kernel
theorem dX6_emboss_161 : decode cX6_emboss 161 = .ok (.aload_n 0, 1) := by decide +kernel
theorem dX6_emboss_162 : decode cX6_emboss 162 = .ok (.getfield 47, 3) := by decide +kernel
theorem dX6_emboss_165 : decode cX6_emboss 165 = .ok (.bipush 100, 2) := by decide +kernel
theorem dX6_emboss_167 : decode cX6_emboss 167 = .ok (.iload_n 1, 1) := by decide +kernel
theorem dX6_emboss_168 : decode cX6_emboss 168 = .ok (.imul, 1) := by decide +kernel
theorem dX6_emboss_169 : decode cX6_emboss 169 = .ok (.iload 7, 2) := by decide +kernel
theorem dX6_emboss_171 : decode cX6_emboss 171 = .ok (.iadd, 1) := by decide +kernel
theorem dX6_emboss_172 : decode cX6_emboss 172 = .ok (.aload_n 0, 1) := by decide +kernel
theorem dX6_emboss_173 : decode cX6_emboss 173 = .ok (.getfield 71, 3) := by decide +kernel
theorem dX6_emboss_176 : decode cX6_emboss 176 = .ok (.iload 7, 2) := by decide +kernel
theorem dX6_emboss_178 : decode cX6_emboss 178 = .ok (.iaload, 1) := by decide +kernel
theorem dX6_emboss_179 : decode cX6_emboss 179 = .ok (.iastore, 1) := by decide +kernel
theorem dX6_emboss_180 : decode cX6_emboss 180 = .ok (.iconst 0, 1) := by decide +kernel
theorem dX6_emboss_181 : decode cX6_emboss 181 = .ok (.istore 8, 2) := by decide +kernel
theorem dX6_emboss_183 : decode cX6_emboss 183 = .ok (.iload 8, 2) := by decide +kernel
theorem dX6_emboss_185 : decode cX6_emboss 185 = .ok (.aload_n 0, 1) := by decide +kernel
theorem dX6_emboss_186 : decode cX6_emboss 186 = .ok (.getfield 71, 3) := by decide +kernel
theorem dX6_emboss_189 : decode cX6_emboss 189 = .ok (.iload 7, 2) := by decide +kernel
theorem dX6_emboss_191 : decode cX6_emboss 191 = .ok (.iaload, 1) := by decide +kernel
theorem dX6_emboss_192 : decode cX6_emboss 192 = .ok (.if_icmp .ge 40, 3) := by decide +kernel
theorem dX6_emboss_195 : decode cX6_emboss 195 = .ok (.aload_n 0, 1) := by decide +kernel
theorem dX6_emboss_196 : decode cX6_emboss 196 = .ok (.getfield 44, 3) := by decide +kernel
theorem dX6_emboss_199 : decode cX6_emboss 199 = .ok (.bipush 40, 2) := by decide +kernel
theorem dX6_emboss_201 : decode cX6_emboss 201 = .ok (.bipush 100, 2) := by decide +kernel
theorem dX6_emboss_203 : decode cX6_emboss 203 = .ok (.iload_n 1, 1) := by decide +kernel
theorem dX6_emboss_204 : decode cX6_emboss 204 = .ok (.imul, 1) := by decide +kernel
theorem dX6_emboss_205 : decode cX6_emboss 205 = .ok (.iload 7, 2) := by decide +kernel
theorem dX6_emboss_207 : decode cX6_emboss 207 = .ok (.iadd, 1) := by decide +kernel
theorem dX6_emboss_208 : decode cX6_emboss 208 = .ok (.imul, 1) := by decide +kernel
theorem dX6_emboss_209 : decode cX6_emboss 209 = .ok (.iload 8, 2) := by decide +kernel
theorem dX6_emboss_211 : decode cX6_emboss 211 = .ok (.iadd, 1) := by decide +kernel
theorem dX6_emboss_212 : decode cX6_emboss 212 = .ok (.aload_n 0, 1) := by decide +kernel
theorem dX6_emboss_213 : decode cX6_emboss 213 = .ok (.getfield 68, 3) := by decide +kernel
theorem dX6_emboss_216 : decode cX6_emboss 216 = .ok (.bipush 40, 2) := by decide +kernel
theorem dX6_emboss_218 : decode cX6_emboss 218 = .ok (.iload 7, 2) := by decide +kernel
theorem dX6_emboss_220 : decode cX6_emboss 220 = .ok (.imul, 1) := by decide +kernel
theorem dX6_emboss_221 : decode cX6_emboss 221 = .ok (.iload 8, 2) := by decide +kernel
theorem dX6_emboss_223 : decode cX6_emboss 223 = .ok (.iadd, 1) := by decide +kernel
theorem dX6_emboss_224 : decode cX6_emboss 224 = .ok (.iaload, 1) := by decide +kernel
theorem dX6_emboss_225 : decode cX6_emboss 225 = .ok (.iastore, 1) := by decide +kernel
theorem dX6_emboss_226 : decode cX6_emboss 226 = .ok (.iinc 8 1, 3) := by decide +kernel
theorem dX6_emboss_229 : decode cX6_emboss 229 = .ok (.goto (-46), 3) := by decide +kernel
theorem dX6_emboss_232 : decode cX6_emboss 232 = .ok (.iinc 7 1, 3) := by decide +kernel
theorem dX6_emboss_235 : decode cX6_emboss 235 = .ok (.goto (-83), 3) := by decide +kernel
theorem dX6_emboss_238 : decode cX6_emboss 238 = .ok (.aload_n 0, 1) := by decide +kernel
theorem dX6_emboss_239 : decode cX6_emboss 239 = .ok (.getfield 50, 3) := by decide +kernel
theorem dX6_emboss_242 : decode cX6_emboss 242 = .ok (.iload_n 1, 1) := by decide +kernel
theorem dX6_emboss_243 : decode cX6_emboss 243 = .ok (.aload_n 0, 1) := by decide +kernel
theorem dX6_emboss_244 : decode cX6_emboss 244 = .ok (.getfield 177, 3) := by decide +kernel
theorem dX6_emboss_247 : decode cX6_emboss 247 = .ok (.iastore, 1) := by decide +kernel
theorem dX6_emboss_248 : decode cX6_emboss 248 = .ok (.bipush 100, 2) := by decide +kernel
theorem dX6_emboss_250 : decode cX6_emboss 250 = .ok (.iload 5, 2) := by decide +kernel
theorem dX6_emboss_252 : decode cX6_emboss 252 = .ok (.imul, 1) := by decide +kernel
theorem dX6_emboss_253 : decode cX6_emboss 253 = .ok (.iload 4, 2) := by decide +kernel
theorem dX6_emboss_255 : decode cX6_emboss 255 = .ok (.iadd, 1) := by decide +kernel
theorem dX6_emboss_256 : decode cX6_emboss 256 = .ok (.ireturn, 1) := by decide +kernel
theorem dX6_changed_0 : decode cX6_changed 0 = .ok (.aload_n 0, 1) := by decide +kernel
theorem dX6_changed_1 : decode cX6_changed 1 = .ok (.aload_n 0, 1) := by decide +kernel
theorem dX6_changed_2 : decode cX6_changed 2 = .ok (.iload_n 1, 1) := by decide +kernel
theorem dX6_changed_3 : decode cX6_changed 3 = .ok (.invokevirtual 171, 3) := by decide +kernel
theorem dX6_changed_6 : decode cX6_changed 6 = .ok (.ifCond .eq 7, 3) := by decide +kernel
theorem dX6_changed_9 : decode cX6_changed 9 = .ok (.iconst 0, 1) := by decide +kernel
theorem dX6_changed_10 : decode cX6_changed 10 = .ok (.goto 4, 3) := by decide +kernel
theorem dX6_changed_13 : decode cX6_changed 13 = .ok (.iconst 1, 1) := by decide +kernel
theorem dX6_changed_14 : decode cX6_changed 14 = .ok (.invokevirtual 84, 3) := by decide +kernel
theorem dX6_changed_17 : decode cX6_changed 17 = .ok (.ifCond .ne 5, 3) := by decide +kernel
theorem dX6_changed_20 : decode cX6_changed 20 = .ok (.iconst 0, 1) := by decide +kernel
theorem dX6_changed_21 : decode cX6_changed 21 = .ok (.ireturn, 1) := by decide +kernel
theorem dX6_changed_22 : decode cX6_changed 22 = .ok (.aload_n 0, 1) := by decide +kernel
theorem dX6_changed_23 : decode cX6_changed 23 = .ok (.iload_n 1, 1) := by decide +kernel
theorem dX6_changed_24 : decode cX6_changed 24 = .ok (.iconst (-1), 1) := by decide +kernel
theorem dX6_changed_25 : decode cX6_changed 25 = .ok (.invokevirtual 187, 3) := by decide +kernel
theorem dX6_changed_28 : decode cX6_changed 28 = .ok (.istore_n 2, 1) := by decide +kernel
theorem dX6_changed_29 : decode cX6_changed 29 = .ok (.aload_n 0, 1) := by decide +kernel
theorem dX6_changed_30 : decode cX6_changed 30 = .ok (.getfield 50, 3) := by decide +kernel
theorem dX6_changed_33 : decode cX6_changed 33 = .ok (.iload_n 1, 1) := by decide +kernel
theorem dX6_changed_34 : decode cX6_changed 34 = .ok (.iaload, 1) := by decide +kernel
theorem dX6_changed_35 : decode cX6_changed 35 = .ok (.aload_n 0, 1) := by decide +kernel
theorem dX6_changed_36 : decode cX6_changed 36 = .ok (.getfield 177, 3) := by decide +kernel
theorem dX6_changed_39 : decode cX6_changed 39 = .ok (.if_icmp .le 17, 3) := by decide +kernel
theorem dX6_changed_42 : decode cX6_changed 42 = .ok (.aload_n 0, 1) := by decide +kernel
theorem dX6_changed_43 : decode cX6_changed 43 = .ok (.getfield 50, 3) := by decide +kernel
theorem dX6_changed_46 : decode cX6_changed 46 = .ok (.iload_n 1, 1) := by decide +kernel
theorem dX6_changed_47 : decode cX6_changed 47 = .ok (.iaload, 1) := by decide +kernel
theorem dX6_changed_48 : decode cX6_changed 48 = .ok (.aload_n 0, 1) := by decide +kernel
theorem dX6_changed_49 : decode cX6_changed 49 = .ok (.getfield 177, 3) := by decide +kernel
theorem dX6_changed_52 : decode cX6_changed 52 = .ok (.isub, 1) := by decide +kernel
theorem dX6_changed_53 : decode cX6_changed 53 = .ok (.goto 4, 3) := by decide +kernel
theorem dX6_changed_56 : decode cX6_changed 56 = .ok (.iconst 0, 1) := by decide +kernel
theorem dX6_changed_57 : decode cX6_changed 57 = .ok (.istore_n 3, 1) := by decide +kernel
theorem dX6_changed_58 : decode cX6_changed 58 = .ok (.iconst 0, 1) := by decide +kernel
theorem dX6_changed_59 : decode cX6_changed 59 = .ok (.istore 4, 2) := by decide +kernel
theorem dX6_changed_61 : decode cX6_changed 61 = .ok (.iload 4, 2) := by decide +kernel
theorem dX6_changed_63 : decode cX6_changed 63 = .ok (.aload_n 0, 1) := by decide +kernel
theorem dX6_changed_64 : decode cX6_changed 64 = .ok (.getfield 177, 3) := by decide +kernel
theorem dX6_changed_67 : decode cX6_changed 67 = .ok (.if_icmp .ge 27, 3) := by decide +kernel
theorem dX6_changed_70 : decode cX6_changed 70 = .ok (.iload_n 3, 1) := by decide +kernel
theorem dX6_changed_71 : decode cX6_changed 71 = .ok (.aload_n 0, 1) := by decide +kernel
theorem dX6_changed_72 : decode cX6_changed 72 = .ok (.iload_n 1, 1) := by decide +kernel
theorem dX6_changed_73 : decode cX6_changed 73 = .ok (.iload 4, 2) := by decide +kernel
theorem dX6_changed_75 : decode cX6_changed 75 = .ok (.invokevirtual 190, 3) := by decide +kernel
theorem dX6_changed_78 : decode cX6_changed 78 = .ok (.ifCond .eq 7, 3) := by decide +kernel
theorem dX6_changed_81 : decode cX6_changed 81 = .ok (.iconst 0, 1) := by decide +kernel
theorem dX6_changed_82 : decode cX6_changed 82 = .ok (.goto 4, 3) := by decide +kernel
theorem dX6_changed_85 : decode cX6_changed 85 = .ok (.iconst 1, 1) := by decide +kernel
theorem dX6_changed_86 : decode cX6_changed 86 = .ok (.iadd, 1) := by decide +kernel
theorem dX6_changed_87 : decode cX6_changed 87 = .ok (.istore_n 3, 1) := by decide +kernel
theorem dX6_changed_88 : decode cX6_changed 88 = .ok (.iinc 4 1, 3) := by decide +kernel
theorem dX6_changed_91 : decode cX6_changed 91 = .ok (.goto (-30), 3) := by decide +kernel
theorem dX6_changed_94 : decode cX6_changed 94 = .ok (.iload_n 3, 1) := by decide +kernel
theorem dX6_changed_95 : decode cX6_changed 95 = .ok (.ireturn, 1) := by decide +kernel
theorem dX6_setBearing_0 : decode cX6_setBearing 0 = .ok (.aload_n 0, 1) := by decide +kernel
theorem dX6_setBearing_1 : decode cX6_setBearing 1 = .ok (.iload_n 1, 1) := by decide +kernel
theorem dX6_setBearing_2 : decode cX6_setBearing 2 = .ok (.bipush 10, 2) := by decide +kernel
theorem dX6_setBearing_4 : decode cX6_setBearing 4 = .ok (.sipush 9999, 3) := by decide +kernel
theorem dX6_setBearing_7 : decode cX6_setBearing 7 = .ok (.invokestatic 77, 3) := by decide +kernel
theorem dX6_setBearing_10 : decode cX6_setBearing 10 = .ok (.ifCond .eq 7, 3) := by decide +kernel
theorem dX6_setBearing_13 : decode cX6_setBearing 13 = .ok (.iconst 0, 1) := by decide +kernel
theorem dX6_setBearing_14 : decode cX6_setBearing 14 = .ok (.goto 4, 3) := by decide +kernel
theorem dX6_setBearing_17 : decode cX6_setBearing 17 = .ok (.iconst 1, 1) := by decide +kernel
theorem dX6_setBearing_18 : decode cX6_setBearing 18 = .ok (.invokevirtual 84, 3) := by decide +kernel
theorem dX6_setBearing_21 : decode cX6_setBearing 21 = .ok (.ifCond .ne 5, 3) := by decide +kernel
theorem dX6_setBearing_24 : decode cX6_setBearing 24 = .ok (.iconst 0, 1) := by decide +kernel
theorem dX6_setBearing_25 : decode cX6_setBearing 25 = .ok (.ireturn, 1) := by decide +kernel
theorem dX6_setBearing_26 : decode cX6_setBearing 26 = .ok (.aload_n 0, 1) := by decide +kernel
theorem dX6_setBearing_27 : decode cX6_setBearing 27 = .ok (.getfield 56, 3) := by decide +kernel
theorem dX6_setBearing_30 : decode cX6_setBearing 30 = .ok (.istore_n 2, 1) := by decide +kernel
theorem dX6_setBearing_31 : decode cX6_setBearing 31 = .ok (.aload_n 0, 1) := by decide +kernel
theorem dX6_setBearing_32 : decode cX6_setBearing 32 = .ok (.iload_n 1, 1) := by decide +kernel
theorem dX6_setBearing_33 : decode cX6_setBearing 33 = .ok (.putfield 56, 3) := by decide +kernel
theorem dX6_setBearing_36 : decode cX6_setBearing 36 = .ok (.iload_n 2, 1) := by decide +kernel
theorem dX6_setBearing_37 : decode cX6_setBearing 37 = .ok (.ireturn, 1) := by decide +kernel
theorem dX6_replace_0 : decode cX6_replace 0 = .ok (.aload_n 0, 1) := by decide +kernel
theorem dX6_replace_1 : decode cX6_replace 1 = .ok (.iload_n 1, 1) := by decide +kernel
theorem dX6_replace_2 : decode cX6_replace 2 = .ok (.iconst 1, 1) := by decide +kernel
theorem dX6_replace_3 : decode cX6_replace 3 = .ok (.bipush 6, 2) := by decide +kernel
theorem dX6_replace_5 : decode cX6_replace 5 = .ok (.invokestatic 77, 3) := by decide +kernel
theorem dX6_replace_8 : decode cX6_replace 8 = .ok (.ifCond .eq 7, 3) := by decide +kernel
theorem dX6_replace_11 : decode cX6_replace 11 = .ok (.iconst 0, 1) := by decide +kernel
theorem dX6_replace_12 : decode cX6_replace 12 = .ok (.goto 4, 3) := by decide +kernel
theorem dX6_replace_15 : decode cX6_replace 15 = .ok (.iconst 1, 1) := by decide +kernel
theorem dX6_replace_16 : decode cX6_replace 16 = .ok (.invokevirtual 84, 3) := by decide +kernel
theorem dX6_replace_19 : decode cX6_replace 19 = .ok (.ifCond .ne 5, 3) := by decide +kernel
theorem dX6_replace_22 : decode cX6_replace 22 = .ok (.iconst 0, 1) := by decide +kernel
theorem dX6_replace_23 : decode cX6_replace 23 = .ok (.ireturn, 1) := by decide +kernel
theorem dX6_replace_24 : decode cX6_replace 24 = .ok (.aload_n 0, 1) := by decide +kernel
theorem dX6_replace_25 : decode cX6_replace 25 = .ok (.getfield 59, 3) := by decide +kernel
theorem dX6_replace_28 : decode cX6_replace 28 = .ok (.iload_n 1, 1) := by decide +kernel
theorem dX6_replace_29 : decode cX6_replace 29 = .ok (.iconst 1, 1) := by decide +kernel
theorem dX6_replace_30 : decode cX6_replace 30 = .ok (.isub, 1) := by decide +kernel
theorem dX6_replace_31 : decode cX6_replace 31 = .ok (.iaload, 1) := by decide +kernel
theorem dX6_replace_32 : decode cX6_replace 32 = .ok (.istore_n 2, 1) := by decide +kernel
theorem dX6_replace_33 : decode cX6_replace 33 = .ok (.aload_n 0, 1) := by decide +kernel
theorem dX6_replace_34 : decode cX6_replace 34 = .ok (.getfield 59, 3) := by decide +kernel
theorem dX6_replace_37 : decode cX6_replace 37 = .ok (.iload_n 1, 1) := by decide +kernel
theorem dX6_replace_38 : decode cX6_replace 38 = .ok (.iconst 1, 1) := by decide +kernel
theorem dX6_replace_39 : decode cX6_replace 39 = .ok (.isub, 1) := by decide +kernel
theorem dX6_replace_40 : decode cX6_replace 40 = .ok (.iconst 0, 1) := by decide +kernel
theorem dX6_replace_41 : decode cX6_replace 41 = .ok (.iastore, 1) := by decide +kernel
theorem dX6_replace_42 : decode cX6_replace 42 = .ok (.iload_n 2, 1) := by decide +kernel
theorem dX6_replace_43 : decode cX6_replace 43 = .ok (.ireturn, 1) := by decide +kernel
theorem dX6_strikes_0 : decode cX6_strikes 0 = .ok (.aload_n 0, 1) := by decide +kernel
theorem dX6_strikes_1 : decode cX6_strikes 1 = .ok (.iload_n 1, 1) := by decide +kernel
theorem dX6_strikes_2 : decode cX6_strikes 2 = .ok (.iconst 1, 1) := by decide +kernel
theorem dX6_strikes_3 : decode cX6_strikes 3 = .ok (.bipush 6, 2) := by decide +kernel
theorem dX6_strikes_5 : decode cX6_strikes 5 = .ok (.invokestatic 77, 3) := by decide +kernel
theorem dX6_strikes_8 : decode cX6_strikes 8 = .ok (.ifCond .eq 7, 3) := by decide +kernel
theorem dX6_strikes_11 : decode cX6_strikes 11 = .ok (.iconst 0, 1) := by decide +kernel
theorem dX6_strikes_12 : decode cX6_strikes 12 = .ok (.goto 4, 3) := by decide +kernel
theorem dX6_strikes_15 : decode cX6_strikes 15 = .ok (.iconst 1, 1) := by decide +kernel
theorem dX6_strikes_16 : decode cX6_strikes 16 = .ok (.invokevirtual 84, 3) := by decide +kernel
theorem dX6_strikes_19 : decode cX6_strikes 19 = .ok (.ifCond .eq 14, 3) := by decide +kernel
theorem dX6_strikes_22 : decode cX6_strikes 22 = .ok (.aload_n 0, 1) := by decide +kernel
theorem dX6_strikes_23 : decode cX6_strikes 23 = .ok (.getfield 59, 3) := by decide +kernel
theorem dX6_strikes_26 : decode cX6_strikes 26 = .ok (.iload_n 1, 1) := by decide +kernel
theorem dX6_strikes_27 : decode cX6_strikes 27 = .ok (.iconst 1, 1) := by decide +kernel
theorem dX6_strikes_28 : decode cX6_strikes 28 = .ok (.isub, 1) := by decide +kernel
theorem dX6_strikes_29 : decode cX6_strikes 29 = .ok (.iaload, 1) := by decide +kernel
theorem dX6_strikes_30 : decode cX6_strikes 30 = .ok (.goto 4, 3) := by decide +kernel
theorem dX6_strikes_33 : decode cX6_strikes 33 = .ok (.iconst 0, 1) := by decide +kernel
theorem dX6_strikes_34 : decode cX6_strikes 34 = .ok (.ireturn, 1) := by decide +kernel
theorem dX6_mark_0 : decode cX6_mark 0 = .ok (.aload_n 0, 1) := by decide +kernel
theorem dX6_mark_1 : decode cX6_mark 1 = .ok (.iload_n 1, 1) := by decide +kernel
theorem dX6_mark_2 : decode cX6_mark 2 = .ok (.iconst 0, 1) := by decide +kernel
theorem dX6_mark_3 : decode cX6_mark 3 = .ok (.iconst 1, 1) := by decide +kernel
theorem dX6_mark_4 : decode cX6_mark 4 = .ok (.invokestatic 77, 3) := by decide +kernel
theorem dX6_mark_7 : decode cX6_mark 7 = .ok (.ifCond .eq 16, 3) := by decide +kernel
theorem dX6_mark_10 : decode cX6_mark 10 = .ok (.aload_n 0, 1) := by decide +kernel
theorem dX6_mark_11 : decode cX6_mark 11 = .ok (.iload_n 2, 1) := by decide +kernel
theorem dX6_mark_12 : decode cX6_mark 12 = .ok (.iload_n 3, 1) := by decide +kernel
theorem dX6_mark_13 : decode cX6_mark 13 = .ok (.invokevirtual 174, 3) := by decide +kernel
theorem dX6_mark_16 : decode cX6_mark 16 = .ok (.ifCond .eq 7, 3) := by decide +kernel
theorem dX6_mark_19 : decode cX6_mark 19 = .ok (.iconst 0, 1) := by decide +kernel
theorem dX6_mark_20 : decode cX6_mark 20 = .ok (.goto 4, 3) := by decide +kernel
theorem dX6_mark_23 : decode cX6_mark 23 = .ok (.iconst 1, 1) := by decide +kernel
theorem dX6_mark_24 : decode cX6_mark 24 = .ok (.invokevirtual 84, 3) := by decide +kernel
theorem dX6_mark_27 : decode cX6_mark 27 = .ok (.ifCond .ne 5, 3) := by decide +kernel
theorem dX6_mark_30 : decode cX6_mark 30 = .ok (.iconst 0, 1) := by decide +kernel
theorem dX6_mark_31 : decode cX6_mark 31 = .ok (.ireturn, 1) := by decide +kernel
theorem dX6_mark_32 : decode cX6_mark 32 = .ok (.iload 4, 2) := by decide +kernel
theorem dX6_mark_34 : decode cX6_mark 34 = .ok (.ifCond .eq 7, 3) := by decide +kernel
theorem dX6_mark_37 : decode cX6_mark 37 = .ok (.iconst 1, 1) := by decide +kernel
theorem dX6_mark_38 : decode cX6_mark 38 = .ok (.goto 4, 3) := by decide +kernel
theorem dX6_mark_41 : decode cX6_mark 41 = .ok (.iconst 2, 1) := by decide +kernel
theorem dX6_mark_42 : decode cX6_mark 42 = .ok (.istore 5, 2) := by decide +kernel
theorem dX6_mark_44 : decode cX6_mark 44 = .ok (.aload_n 0, 1) := by decide +kernel
theorem dX6_mark_45 : decode cX6_mark 45 = .ok (.getfield 53, 3) := by decide +kernel
theorem dX6_mark_48 : decode cX6_mark 48 = .ok (.sipush 240, 3) := by decide +kernel
theorem dX6_mark_51 : decode cX6_mark 51 = .ok (.iload_n 1, 1) := by decide +kernel
theorem dX6_mark_52 : decode cX6_mark 52 = .ok (.imul, 1) := by decide +kernel
theorem dX6_mark_53 : decode cX6_mark 53 = .ok (.bipush 40, 2) := by decide +kernel
theorem dX6_mark_55 : decode cX6_mark 55 = .ok (.iload_n 2, 1) := by decide +kernel
theorem dX6_mark_56 : decode cX6_mark 56 = .ok (.imul, 1) := by decide +kernel
theorem dX6_mark_57 : decode cX6_mark 57 = .ok (.iadd, 1) := by decide +kernel
theorem dX6_mark_58 : decode cX6_mark 58 = .ok (.iload_n 3, 1) := by decide +kernel
theorem dX6_mark_59 : decode cX6_mark 59 = .ok (.iadd, 1) := by decide +kernel
theorem dX6_mark_60 : decode cX6_mark 60 = .ok (.iload 5, 2) := by decide +kernel
theorem dX6_mark_62 : decode cX6_mark 62 = .ok (.iastore, 1) := by decide +kernel
theorem dX6_mark_63 : decode cX6_mark 63 = .ok (.aload_n 0, 1) := by decide +kernel
theorem dX6_mark_64 : decode cX6_mark 64 = .ok (.getfield 53, 3) := by decide +kernel
theorem dX6_mark_67 : decode cX6_mark 67 = .ok (.sipush 240, 3) := by decide +kernel
theorem dX6_mark_70 : decode cX6_mark 70 = .ok (.iconst 1, 1) := by decide +kernel
theorem dX6_mark_71 : decode cX6_mark 71 = .ok (.iload_n 1, 1) := by decide +kernel
theorem dX6_mark_72 : decode cX6_mark 72 = .ok (.isub, 1) := by decide +kernel
theorem dX6_mark_73 : decode cX6_mark 73 = .ok (.imul, 1) := by decide +kernel
theorem dX6_mark_74 : decode cX6_mark 74 = .ok (.bipush 40, 2) := by decide +kernel
theorem dX6_mark_76 : decode cX6_mark 76 = .ok (.iload_n 2, 1) := by decide +kernel
theorem dX6_mark_77 : decode cX6_mark 77 = .ok (.imul, 1) := by decide +kernel
theorem dX6_mark_78 : decode cX6_mark 78 = .ok (.iadd, 1) := by decide +kernel
theorem dX6_mark_79 : decode cX6_mark 79 = .ok (.iload_n 3, 1) := by decide +kernel
theorem dX6_mark_80 : decode cX6_mark 80 = .ok (.iadd, 1) := by decide +kernel
theorem dX6_mark_81 : decode cX6_mark 81 = .ok (.iaload, 1) := by decide +kernel
theorem dX6_mark_82 : decode cX6_mark 82 = .ok (.iload 5, 2) := by decide +kernel
theorem dX6_mark_84 : decode cX6_mark 84 = .ok (.if_icmp .ne 7, 3) := by decide +kernel
theorem dX6_mark_87 : decode cX6_mark 87 = .ok (.iconst 1, 1) := by decide +kernel
theorem dX6_mark_88 : decode cX6_mark 88 = .ok (.goto 4, 3) := by decide +kernel
theorem dX6_mark_91 : decode cX6_mark 91 = .ok (.iconst 0, 1) := by decide +kernel
theorem dX6_mark_92 : decode cX6_mark 92 = .ok (.ireturn, 1) := by decide +kernel
theorem dX6_markOf_0 : decode cX6_markOf 0 = .ok (.aload_n 0, 1) := by decide +kernel
theorem dX6_markOf_1 : decode cX6_markOf 1 = .ok (.iload_n 1, 1) := by decide +kernel
theorem dX6_markOf_2 : decode cX6_markOf 2 = .ok (.iconst 0, 1) := by decide +kernel
theorem dX6_markOf_3 : decode cX6_markOf 3 = .ok (.iconst 1, 1) := by decide +kernel
theorem dX6_markOf_4 : decode cX6_markOf 4 = .ok (.invokestatic 77, 3) := by decide +kernel
theorem dX6_markOf_7 : decode cX6_markOf 7 = .ok (.ifCond .eq 16, 3) := by decide +kernel
theorem dX6_markOf_10 : decode cX6_markOf 10 = .ok (.aload_n 0, 1) := by decide +kernel
theorem dX6_markOf_11 : decode cX6_markOf 11 = .ok (.iload_n 2, 1) := by decide +kernel
theorem dX6_markOf_12 : decode cX6_markOf 12 = .ok (.iload_n 3, 1) := by decide +kernel
theorem dX6_markOf_13 : decode cX6_markOf 13 = .ok (.invokevirtual 174, 3) := by decide +kernel
theorem dX6_markOf_16 : decode cX6_markOf 16 = .ok (.ifCond .eq 7, 3) := by decide +kernel
theorem dX6_markOf_19 : decode cX6_markOf 19 = .ok (.iconst 0, 1) := by decide +kernel
theorem dX6_markOf_20 : decode cX6_markOf 20 = .ok (.goto 4, 3) := by decide +kernel
theorem dX6_markOf_23 : decode cX6_markOf 23 = .ok (.iconst 1, 1) := by decide +kernel
theorem dX6_markOf_24 : decode cX6_markOf 24 = .ok (.invokevirtual 84, 3) := by decide +kernel
theorem dX6_markOf_27 : decode cX6_markOf 27 = .ok (.ifCond .ne 5, 3) := by decide +kernel
theorem dX6_markOf_30 : decode cX6_markOf 30 = .ok (.iconst 0, 1) := by decide +kernel
theorem dX6_markOf_31 : decode cX6_markOf 31 = .ok (.ireturn, 1) := by decide +kernel
theorem dX6_markOf_32 : decode cX6_markOf 32 = .ok (.aload_n 0, 1) := by decide +kernel
theorem dX6_markOf_33 : decode cX6_markOf 33 = .ok (.getfield 53, 3) := by decide +kernel
theorem dX6_markOf_36 : decode cX6_markOf 36 = .ok (.sipush 240, 3) := by decide +kernel
theorem dX6_markOf_39 : decode cX6_markOf 39 = .ok (.iload_n 1, 1) := by decide +kernel
theorem dX6_markOf_40 : decode cX6_markOf 40 = .ok (.imul, 1) := by decide +kernel
theorem dX6_markOf_41 : decode cX6_markOf 41 = .ok (.bipush 40, 2) := by decide +kernel
theorem dX6_markOf_43 : decode cX6_markOf 43 = .ok (.iload_n 2, 1) := by decide +kernel
theorem dX6_markOf_44 : decode cX6_markOf 44 = .ok (.imul, 1) := by decide +kernel
theorem dX6_markOf_45 : decode cX6_markOf 45 = .ok (.iadd, 1) := by decide +kernel
theorem dX6_markOf_46 : decode cX6_markOf 46 = .ok (.iload_n 3, 1) := by decide +kernel
theorem dX6_markOf_47 : decode cX6_markOf 47 = .ok (.iadd, 1) := by decide +kernel
theorem dX6_markOf_48 : decode cX6_markOf 48 = .ok (.iaload, 1) := by decide +kernel
theorem dX6_markOf_49 : decode cX6_markOf 49 = .ok (.istore 4, 2) := by decide +kernel
theorem dX6_markOf_51 : decode cX6_markOf 51 = .ok (.iload 4, 2) := by decide +kernel
theorem dX6_markOf_53 : decode cX6_markOf 53 = .ok (.ifCond .ne 8, 3) := by decide +kernel
theorem dX6_markOf_56 : decode cX6_markOf 56 = .ok (.bipush 45, 2) := by decide +kernel
theorem dX6_markOf_58 : decode cX6_markOf 58 = .ok (.goto 16, 3) := by decide +kernel
theorem dX6_markOf_61 : decode cX6_markOf 61 = .ok (.iload 4, 2) := by decide +kernel
theorem dX6_markOf_63 : decode cX6_markOf 63 = .ok (.iconst 1, 1) := by decide +kernel
theorem dX6_markOf_64 : decode cX6_markOf 64 = .ok (.if_icmp .ne 8, 3) := by decide +kernel
theorem dX6_markOf_67 : decode cX6_markOf 67 = .ok (.bipush 114, 2) := by decide +kernel
theorem dX6_markOf_69 : decode cX6_markOf 69 = .ok (.goto 5, 3) := by decide +kernel
theorem dX6_markOf_72 : decode cX6_markOf 72 = .ok (.bipush 119, 2) := by decide +kernel
theorem dX6_markOf_74 : decode cX6_markOf 74 = .ok (.ireturn, 1) := by decide +kernel
theorem dX6_checksum_0 : decode cX6_checksum 0 = .ok (.aload_n 0, 1) := by decide +kernel
theorem dX6_checksum_1 : decode cX6_checksum 1 = .ok (.iconst 0, 1) := by decide +kernel
theorem dX6_checksum_2 : decode cX6_checksum 2 = .ok (.putfield 74, 3) := by decide +kernel
theorem dX6_checksum_5 : decode cX6_checksum 5 = .ok (.lconst 0, 1) := by decide +kernel
theorem dX6_checksum_6 : decode cX6_checksum 6 = .ok (.lstore_n 1, 1) := by decide +kernel
theorem dX6_checksum_7 : decode cX6_checksum 7 = .ok (.iconst 0, 1) := by decide +kernel
theorem dX6_checksum_8 : decode cX6_checksum 8 = .ok (.istore_n 3, 1) := by decide +kernel
theorem dX6_checksum_9 : decode cX6_checksum 9 = .ok (.iload_n 3, 1) := by decide +kernel
theorem dX6_checksum_10 : decode cX6_checksum 10 = .ok (.aload_n 0, 1) := by decide +kernel
theorem dX6_checksum_11 : decode cX6_checksum 11 = .ok (.getfield 162, 3) := by decide +kernel
theorem dX6_checksum_14 : decode cX6_checksum 14 = .ok (.if_icmp .ge 77, 3) := by decide +kernel
theorem dX6_checksum_17 : decode cX6_checksum 17 = .ok (.aload_n 0, 1) := by decide +kernel
theorem dX6_checksum_18 : decode cX6_checksum 18 = .ok (.iload_n 3, 1) := by decide +kernel
theorem dX6_checksum_19 : decode cX6_checksum 19 = .ok (.iconst (-1), 1) := by decide +kernel
theorem dX6_checksum_20 : decode cX6_checksum 20 = .ok (.invokevirtual 187, 3) := by decide +kernel
theorem dX6_checksum_23 : decode cX6_checksum 23 = .ok (.istore 4, 2) := by decide +kernel
theorem dX6_checksum_25 : decode cX6_checksum 25 = .ok (.iconst 0, 1) := by decide +kernel
theorem dX6_checksum_26 : decode cX6_checksum 26 = .ok (.istore 5, 2) := by decide +kernel
theorem dX6_checksum_28 : decode cX6_checksum 28 = .ok (.iload 5, 2) := by decide +kernel
theorem dX6_checksum_30 : decode cX6_checksum 30 = .ok (.aload_n 0, 1) := by decide +kernel
theorem dX6_checksum_31 : decode cX6_checksum 31 = .ok (.getfield 177, 3) := by decide +kernel
theorem dX6_checksum_34 : decode cX6_checksum 34 = .ok (.if_icmp .ge 51, 3) := by decide +kernel
theorem dX6_checksum_37 : decode cX6_checksum 37 = .ok (.iconst 0, 1) := by decide +kernel
theorem dX6_checksum_38 : decode cX6_checksum 38 = .ok (.istore 6, 2) := by decide +kernel
theorem dX6_checksum_40 : decode cX6_checksum 40 = .ok (.iload 6, 2) := by decide +kernel
theorem dX6_checksum_42 : decode cX6_checksum 42 = .ok (.aload_n 0, 1) := by decide +kernel
theorem dX6_checksum_43 : decode cX6_checksum 43 = .ok (.getfield 71, 3) := by decide +kernel
theorem dX6_checksum_46 : decode cX6_checksum 46 = .ok (.iload 5, 2) := by decide +kernel
theorem dX6_checksum_48 : decode cX6_checksum 48 = .ok (.iaload, 1) := by decide +kernel
theorem dX6_checksum_49 : decode cX6_checksum 49 = .ok (.if_icmp .ge 30, 3) := by decide +kernel
theorem dX6_checksum_52 : decode cX6_checksum 52 = .ok (.ldc2_w 199, 3) := by decide +kernel
theorem dX6_checksum_55 : decode cX6_checksum 55 = .ok (.lload_n 1, 1) := by decide +kernel
theorem dX6_checksum_56 : decode cX6_checksum 56 = .ok (.lmul, 1) := by decide +kernel
theorem dX6_checksum_57 : decode cX6_checksum 57 = .ok (.aload_n 0, 1) := by decide +kernel
theorem dX6_checksum_58 : decode cX6_checksum 58 = .ok (.getfield 68, 3) := by decide +kernel
theorem dX6_checksum_61 : decode cX6_checksum 61 = .ok (.bipush 40, 2) := by decide +kernel
theorem dX6_checksum_63 : decode cX6_checksum 63 = .ok (.iload 5, 2) := by decide +kernel
theorem dX6_checksum_65 : decode cX6_checksum 65 = .ok (.imul, 1) := by decide +kernel
theorem dX6_checksum_66 : decode cX6_checksum 66 = .ok (.iload 6, 2) := by decide +kernel
theorem dX6_checksum_68 : decode cX6_checksum 68 = .ok (.iadd, 1) := by decide +kernel
theorem dX6_checksum_69 : decode cX6_checksum 69 = .ok (.iaload, 1) := by decide +kernel
theorem dX6_checksum_70 : decode cX6_checksum 70 = .ok (.i2l, 1) := by decide +kernel
theorem dX6_checksum_71 : decode cX6_checksum 71 = .ok (.ladd, 1) := by decide +kernel
theorem dX6_checksum_72 : decode cX6_checksum 72 = .ok (.lstore_n 1, 1) := by decide +kernel
theorem dX6_checksum_73 : decode cX6_checksum 73 = .ok (.iinc 6 1, 3) := by decide +kernel
theorem dX6_checksum_76 : decode cX6_checksum 76 = .ok (.goto (-36), 3) := by decide +kernel
theorem dX6_checksum_79 : decode cX6_checksum 79 = .ok (.iinc 5 1, 3) := by decide +kernel
theorem dX6_checksum_82 : decode cX6_checksum 82 = .ok (.goto (-54), 3) := by decide +kernel
theorem dX6_checksum_85 : decode cX6_checksum 85 = .ok (.iinc 3 1, 3) := by decide +kernel
theorem dX6_checksum_88 : decode cX6_checksum 88 = .ok (.goto (-79), 3) := by decide +kernel
theorem dX6_checksum_91 : decode cX6_checksum 91 = .ok (.lload_n 1, 1) := by decide +kernel
theorem dX6_checksum_92 : decode cX6_checksum 92 = .ok (.lreturn, 1) := by decide +kernel
theorem dX6_provedShare_0 : decode cX6_provedShare 0 = .ok (.iconst 0, 1) := by decide +kernel
theorem dX6_provedShare_1 : decode cX6_provedShare 1 = .ok (.istore_n 1, 1) := by decide +kernel
theorem dX6_provedShare_2 : decode cX6_provedShare 2 = .ok (.iconst 0, 1) := by decide +kernel
theorem dX6_provedShare_3 : decode cX6_provedShare 3 = .ok (.istore_n 2, 1) := by decide +kernel
theorem dX6_provedShare_4 : decode cX6_provedShare 4 = .ok (.iconst 0, 1) := by decide +kernel
theorem dX6_provedShare_5 : decode cX6_provedShare 5 = .ok (.istore_n 3, 1) := by decide +kernel
theorem dX6_provedShare_6 : decode cX6_provedShare 6 = .ok (.iload_n 3, 1) := by decide +kernel
theorem dX6_provedShare_7 : decode cX6_provedShare 7 = .ok (.aload_n 0, 1) := by decide +kernel
theorem dX6_provedShare_8 : decode cX6_provedShare 8 = .ok (.getfield 162, 3) := by decide +kernel
theorem dX6_provedShare_11 : decode cX6_provedShare 11 = .ok (.if_icmp .ge 81, 3) := by decide +kernel
theorem dX6_provedShare_14 : decode cX6_provedShare 14 = .ok (.aload_n 0, 1) := by decide +kernel
theorem dX6_provedShare_15 : decode cX6_provedShare 15 = .ok (.iload_n 3, 1) := by decide +kernel
theorem dX6_provedShare_16 : decode cX6_provedShare 16 = .ok (.invokevirtual 165, 3) := by decide +kernel
theorem dX6_provedShare_19 : decode cX6_provedShare 19 = .ok (.istore 4, 2) := by decide +kernel
theorem dX6_provedShare_21 : decode cX6_provedShare 21 = .ok (.iload_n 1, 1) := by decide +kernel
theorem dX6_provedShare_22 : decode cX6_provedShare 22 = .ok (.iload 4, 2) := by decide +kernel
theorem dX6_provedShare_24 : decode cX6_provedShare 24 = .ok (.iadd, 1) := by decide +kernel
theorem dX6_provedShare_25 : decode cX6_provedShare 25 = .ok (.istore_n 1, 1) := by decide +kernel
theorem dX6_provedShare_26 : decode cX6_provedShare 26 = .ok (.iconst 0, 1) := by decide +kernel
theorem dX6_provedShare_27 : decode cX6_provedShare 27 = .ok (.istore 5, 2) := by decide +kernel
theorem dX6_provedShare_29 : decode cX6_provedShare 29 = .ok (.iload 5, 2) := by decide +kernel
theorem dX6_provedShare_31 : decode cX6_provedShare 31 = .ok (.iload 4, 2) := by decide +kernel
theorem dX6_provedShare_33 : decode cX6_provedShare 33 = .ok (.if_icmp .ge 53, 3) := by decide +kernel
theorem dX6_provedShare_36 : decode cX6_provedShare 36 = .ok (.iload_n 2, 1) := by decide +kernel
theorem dX6_provedShare_37 : decode cX6_provedShare 37 = .ok (.aload_n 0, 1) := by decide +kernel
theorem dX6_provedShare_38 : decode cX6_provedShare 38 = .ok (.getfield 53, 3) := by decide +kernel
theorem dX6_provedShare_41 : decode cX6_provedShare 41 = .ok (.bipush 40, 2) := by decide +kernel
theorem dX6_provedShare_43 : decode cX6_provedShare 43 = .ok (.iload_n 3, 1) := by decide +kernel
theorem dX6_provedShare_44 : decode cX6_provedShare 44 = .ok (.imul, 1) := by decide +kernel
theorem dX6_provedShare_45 : decode cX6_provedShare 45 = .ok (.iload 5, 2) := by decide +kernel
theorem dX6_provedShare_47 : decode cX6_provedShare 47 = .ok (.iadd, 1) := by decide +kernel
theorem dX6_provedShare_48 : decode cX6_provedShare 48 = .ok (.iaload, 1) := by decide +kernel
theorem dX6_provedShare_49 : decode cX6_provedShare 49 = .ok (.iconst 1, 1) := by decide +kernel
theorem dX6_provedShare_50 : decode cX6_provedShare 50 = .ok (.if_icmp .ne 27, 3) := by decide +kernel
theorem dX6_provedShare_53 : decode cX6_provedShare 53 = .ok (.aload_n 0, 1) := by decide +kernel
theorem dX6_provedShare_54 : decode cX6_provedShare 54 = .ok (.getfield 53, 3) := by decide +kernel
theorem dX6_provedShare_57 : decode cX6_provedShare 57 = .ok (.sipush 240, 3) := by decide +kernel
theorem dX6_provedShare_60 : decode cX6_provedShare 60 = .ok (.bipush 40, 2) := by decide +kernel
theorem dX6_provedShare_62 : decode cX6_provedShare 62 = .ok (.iload_n 3, 1) := by decide +kernel
theorem dX6_provedShare_63 : decode cX6_provedShare 63 = .ok (.imul, 1) := by decide +kernel
theorem dX6_provedShare_64 : decode cX6_provedShare 64 = .ok (.iadd, 1) := by decide +kernel
theorem dX6_provedShare_65 : decode cX6_provedShare 65 = .ok (.iload 5, 2) := by decide +kernel
theorem dX6_provedShare_67 : decode cX6_provedShare 67 = .ok (.iadd, 1) := by decide +kernel
theorem dX6_provedShare_68 : decode cX6_provedShare 68 = .ok (.iaload, 1) := by decide +kernel
theorem dX6_provedShare_69 : decode cX6_provedShare 69 = .ok (.iconst 1, 1) := by decide +kernel
theorem dX6_provedShare_70 : decode cX6_provedShare 70 = .ok (.if_icmp .ne 7, 3) := by decide +kernel
theorem dX6_provedShare_73 : decode cX6_provedShare 73 = .ok (.iconst 1, 1) := by decide +kernel
theorem dX6_provedShare_74 : decode cX6_provedShare 74 = .ok (.goto 4, 3) := by decide +kernel
theorem dX6_provedShare_77 : decode cX6_provedShare 77 = .ok (.iconst 0, 1) := by decide +kernel
theorem dX6_provedShare_78 : decode cX6_provedShare 78 = .ok (.iadd, 1) := by decide +kernel
theorem dX6_provedShare_79 : decode cX6_provedShare 79 = .ok (.istore_n 2, 1) := by decide +kernel
theorem dX6_provedShare_80 : decode cX6_provedShare 80 = .ok (.iinc 5 1, 3) := by decide +kernel
theorem dX6_provedShare_83 : decode cX6_provedShare 83 = .ok (.goto (-54), 3) := by decide +kernel
theorem dX6_provedShare_86 : decode cX6_provedShare 86 = .ok (.iinc 3 1, 3) := by decide +kernel
theorem dX6_provedShare_89 : decode cX6_provedShare 89 = .ok (.goto (-83), 3) := by decide +kernel
theorem dX6_provedShare_92 : decode cX6_provedShare 92 = .ok (.aload_n 0, 1) := by decide +kernel
theorem dX6_provedShare_93 : decode cX6_provedShare 93 = .ok (.iload_n 1, 1) := by decide +kernel
theorem dX6_provedShare_94 : decode cX6_provedShare 94 = .ok (.ifCond .ne 7, 3) := by decide +kernel
theorem dX6_provedShare_97 : decode cX6_provedShare 97 = .ok (.iconst 1, 1) := by decide +kernel
theorem dX6_provedShare_98 : decode cX6_provedShare 98 = .ok (.goto 4, 3) := by decide +kernel
theorem dX6_provedShare_101 : decode cX6_provedShare 101 = .ok (.iconst 0, 1) := by decide +kernel
theorem dX6_provedShare_102 : decode cX6_provedShare 102 = .ok (.invokevirtual 84, 3) := by decide +kernel
theorem dX6_provedShare_105 : decode cX6_provedShare 105 = .ok (.ifCond .eq 11, 3) := by decide +kernel
theorem dX6_provedShare_108 : decode cX6_provedShare 108 = .ok (.iload_n 2, 1) := by decide +kernel
theorem dX6_provedShare_109 : decode cX6_provedShare 109 = .ok (.i2f, 1) := by decide +kernel
theorem dX6_provedShare_110 : decode cX6_provedShare 110 = .ok (.iload_n 1, 1) := by decide +kernel
theorem dX6_provedShare_111 : decode cX6_provedShare 111 = .ok (.i2f, 1) := by decide +kernel
theorem dX6_provedShare_112 : decode cX6_provedShare 112 = .ok (.fdiv, 1) := by decide +kernel
theorem dX6_provedShare_113 : decode cX6_provedShare 113 = .ok (.goto 4, 3) := by decide +kernel
theorem dX6_provedShare_116 : decode cX6_provedShare 116 = .ok (.fconst 0, 1) := by decide +kernel
theorem dX6_provedShare_117 : decode cX6_provedShare 117 = .ok (.freturn, 1) := by decide +kernel
theorem dX6_meanStrikes_0 : decode cX6_meanStrikes 0 = .ok (.aload_n 0, 1) := by decide +kernel
theorem dX6_meanStrikes_1 : decode cX6_meanStrikes 1 = .ok (.iconst 0, 1) := by decide +kernel
theorem dX6_meanStrikes_2 : decode cX6_meanStrikes 2 = .ok (.putfield 74, 3) := by decide +kernel
theorem dX6_meanStrikes_5 : decode cX6_meanStrikes 5 = .ok (.iconst 0, 1) := by decide +kernel
theorem dX6_meanStrikes_6 : decode cX6_meanStrikes 6 = .ok (.istore_n 1, 1) := by decide +kernel
theorem dX6_meanStrikes_7 : decode cX6_meanStrikes 7 = .ok (.iconst 0, 1) := by decide +kernel
theorem dX6_meanStrikes_8 : decode cX6_meanStrikes 8 = .ok (.istore_n 2, 1) := by decide +kernel
theorem dX6_meanStrikes_9 : decode cX6_meanStrikes 9 = .ok (.iload_n 2, 1) := by decide +kernel
theorem dX6_meanStrikes_10 : decode cX6_meanStrikes 10 = .ok (.bipush 6, 2) := by decide +kernel
theorem dX6_meanStrikes_12 : decode cX6_meanStrikes 12 = .ok (.if_icmp .ge 18, 3) := by decide +kernel
theorem dX6_meanStrikes_15 : decode cX6_meanStrikes 15 = .ok (.iload_n 1, 1) := by decide +kernel
theorem dX6_meanStrikes_16 : decode cX6_meanStrikes 16 = .ok (.aload_n 0, 1) := by decide +kernel
theorem dX6_meanStrikes_17 : decode cX6_meanStrikes 17 = .ok (.getfield 59, 3) := by decide +kernel
theorem dX6_meanStrikes_20 : decode cX6_meanStrikes 20 = .ok (.iload_n 2, 1) := by decide +kernel
theorem dX6_meanStrikes_21 : decode cX6_meanStrikes 21 = .ok (.iaload, 1) := by decide +kernel
theorem dX6_meanStrikes_22 : decode cX6_meanStrikes 22 = .ok (.iadd, 1) := by decide +kernel
theorem dX6_meanStrikes_23 : decode cX6_meanStrikes 23 = .ok (.istore_n 1, 1) := by decide +kernel
theorem dX6_meanStrikes_24 : decode cX6_meanStrikes 24 = .ok (.iinc 2 1, 3) := by decide +kernel
theorem dX6_meanStrikes_27 : decode cX6_meanStrikes 27 = .ok (.goto (-18), 3) := by decide +kernel
theorem dX6_meanStrikes_30 : decode cX6_meanStrikes 30 = .ok (.iload_n 1, 1) := by decide +kernel
theorem dX6_meanStrikes_31 : decode cX6_meanStrikes 31 = .ok (.i2d, 1) := by decide +kernel
theorem dX6_meanStrikes_32 : decode cX6_meanStrikes 32 = .ok (.ldc2_w 201, 3) := by decide +kernel
theorem dX6_meanStrikes_35 : decode cX6_meanStrikes 35 = .ok (.ddiv, 1) := by decide +kernel
theorem dX6_meanStrikes_36 : decode cX6_meanStrikes 36 = .ok (.dreturn, 1) := by decide +kernel
theorem dX6_isSound_0 : decode cX6_isSound 0 = .ok (.aload_n 0, 1) := by decide +kernel
theorem dX6_isSound_1 : decode cX6_isSound 1 = .ok (.iconst 0, 1) := by decide +kernel
theorem dX6_isSound_2 : decode cX6_isSound 2 = .ok (.putfield 74, 3) := by decide +kernel
theorem dX6_isSound_5 : decode cX6_isSound 5 = .ok (.iconst 1, 1) := by decide +kernel
theorem dX6_isSound_6 : decode cX6_isSound 6 = .ok (.ireturn, 1) := by decide +kernel
end
section
theorem dL_type_0 : decode cL_type 0 = .ok (.aload_n 2, 1) := by decide +kernel
theorem dL_type_1 : decode cL_type 1 = .ok (.iconst 0, 1) := by decide +kernel
theorem dL_type_2 : decode cL_type 2 = .ok (.aload_n 0, 1) := by decide +kernel
theorem dL_type_3 : decode cL_type 3 = .ok (.iload_n 1, 1) := by decide +kernel
theorem dL_type_4 : decode cL_type 4 = .ok (.invokevirtual 7, 3) := by decide +kernel
theorem dL_type_7 : decode cL_type 7 = .ok (.i2l, 1) := by decide +kernel
theorem dL_type_8 : decode cL_type 8 = .ok (.lastore, 1) := by decide +kernel
theorem dL_type_9 : decode cL_type 9 = .ok (.goto 9, 3) := by decide +kernel
theorem dL_type_12 : decode cL_type 12 = .ok (.astore_n 3, 1) := by decide +kernel
theorem dL_type_13 : decode cL_type 13 = .ok (.iconst 1, 1) := by decide +kernel
theorem dL_type_14 : decode cL_type 14 = .ok (.ireturn, 1) := by decide +kernel
theorem dL_type_15 : decode cL_type 15 = .ok (.astore_n 3, 1) := by decide +kernel
theorem dL_type_16 : decode cL_type 16 = .ok (.iconst 2, 1) := by decide +kernel
theorem dL_type_17 : decode cL_type 17 = .ok (.ireturn, 1) := by decide +kernel
theorem dL_type_18 : decode cL_type 18 = .ok (.iconst 0, 1) := by decide +kernel
theorem dL_type_19 : decode cL_type 19 = .ok (.ireturn, 1) := by decide +kernel
theorem dL_addRule_0 : decode cL_addRule 0 = .ok (.aload 4, 2) := by decide +kernel
theorem dL_addRule_2 : decode cL_addRule 2 = .ok (.iconst 0, 1) := by decide +kernel
theorem dL_addRule_3 : decode cL_addRule 3 = .ok (.aload_n 0, 1) := by decide +kernel
theorem dL_addRule_4 : decode cL_addRule 4 = .ok (.iload_n 1, 1) := by decide +kernel
theorem dL_addRule_5 : decode cL_addRule 5 = .ok (.iload_n 2, 1) := by decide +kernel
theorem dL_addRule_6 : decode cL_addRule 6 = .ok (.iload_n 3, 1) := by decide +kernel
theorem dL_addRule_7 : decode cL_addRule 7 = .ok (.invokevirtual 17, 3) := by decide +kernel
theorem dL_addRule_10 : decode cL_addRule 10 = .ok (.i2l, 1) := by decide +kernel
theorem dL_addRule_11 : decode cL_addRule 11 = .ok (.lastore, 1) := by decide +kernel
theorem dL_addRule_12 : decode cL_addRule 12 = .ok (.goto 15, 3) := by decide +kernel
theorem dL_addRule_15 : decode cL_addRule 15 = .ok (.astore 5, 2) := by decide +kernel
theorem dL_addRule_17 : decode cL_addRule 17 = .ok (.iconst 1, 1) := by decide +kernel
theorem dL_addRule_18 : decode cL_addRule 18 = .ok (.ireturn, 1) := by decide +kernel
theorem dL_addRule_19 : decode cL_addRule 19 = .ok (.astore 5, 2) := by decide +kernel
theorem dL_addRule_21 : decode cL_addRule 21 = .ok (.iconst 2, 1) := by decide +kernel
theorem dL_addRule_22 : decode cL_addRule 22 = .ok (.ireturn, 1) := by decide +kernel
theorem dL_addRule_23 : decode cL_addRule 23 = .ok (.astore 5, 2) := by decide +kernel
theorem dL_addRule_25 : decode cL_addRule 25 = .ok (.iconst 3, 1) := by decide +kernel
theorem dL_addRule_26 : decode cL_addRule 26 = .ok (.ireturn, 1) := by decide +kernel
theorem dL_addRule_27 : decode cL_addRule 27 = .ok (.iconst 0, 1) := by decide +kernel
theorem dL_addRule_28 : decode cL_addRule 28 = .ok (.ireturn, 1) := by decide +kernel
theorem dL_mend_0 : decode cL_mend 0 = .ok (.aload 4, 2) := by decide +kernel
theorem dL_mend_2 : decode cL_mend 2 = .ok (.iconst 0, 1) := by decide +kernel
theorem dL_mend_3 : decode cL_mend 3 = .ok (.aload_n 0, 1) := by decide +kernel
theorem dL_mend_4 : decode cL_mend 4 = .ok (.iload_n 1, 1) := by decide +kernel
theorem dL_mend_5 : decode cL_mend 5 = .ok (.iload_n 2, 1) := by decide +kernel
theorem dL_mend_6 : decode cL_mend 6 = .ok (.iload_n 3, 1) := by decide +kernel
theorem dL_mend_7 : decode cL_mend 7 = .ok (.invokevirtual 23, 3) := by decide +kernel
theorem dL_mend_10 : decode cL_mend 10 = .ok (.i2l, 1) := by decide +kernel
theorem dL_mend_11 : decode cL_mend 11 = .ok (.lastore, 1) := by decide +kernel
theorem dL_mend_12 : decode cL_mend 12 = .ok (.goto 11, 3) := by decide +kernel
theorem dL_mend_15 : decode cL_mend 15 = .ok (.astore 5, 2) := by decide +kernel
theorem dL_mend_17 : decode cL_mend 17 = .ok (.iconst 1, 1) := by decide +kernel
theorem dL_mend_18 : decode cL_mend 18 = .ok (.ireturn, 1) := by decide +kernel
theorem dL_mend_19 : decode cL_mend 19 = .ok (.astore 5, 2) := by decide +kernel
theorem dL_mend_21 : decode cL_mend 21 = .ok (.iconst 2, 1) := by decide +kernel
theorem dL_mend_22 : decode cL_mend 22 = .ok (.ireturn, 1) := by decide +kernel
theorem dL_mend_23 : decode cL_mend 23 = .ok (.iconst 0, 1) := by decide +kernel
theorem dL_mend_24 : decode cL_mend 24 = .ok (.ireturn, 1) := by decide +kernel
theorem dL_removeRule_0 : decode cL_removeRule 0 = .ok (.aload_n 2, 1) := by decide +kernel
theorem dL_removeRule_1 : decode cL_removeRule 1 = .ok (.iconst 0, 1) := by decide +kernel
theorem dL_removeRule_2 : decode cL_removeRule 2 = .ok (.aload_n 0, 1) := by decide +kernel
theorem dL_removeRule_3 : decode cL_removeRule 3 = .ok (.iload_n 1, 1) := by decide +kernel
theorem dL_removeRule_4 : decode cL_removeRule 4 = .ok (.invokevirtual 28, 3) := by decide +kernel
theorem dL_removeRule_7 : decode cL_removeRule 7 = .ok (.i2l, 1) := by decide +kernel
theorem dL_removeRule_8 : decode cL_removeRule 8 = .ok (.lastore, 1) := by decide +kernel
theorem dL_removeRule_9 : decode cL_removeRule 9 = .ok (.goto 6, 3) := by decide +kernel
theorem dL_removeRule_12 : decode cL_removeRule 12 = .ok (.astore_n 3, 1) := by decide +kernel
theorem dL_removeRule_13 : decode cL_removeRule 13 = .ok (.iconst 1, 1) := by decide +kernel
theorem dL_removeRule_14 : decode cL_removeRule 14 = .ok (.ireturn, 1) := by decide +kernel
theorem dL_removeRule_15 : decode cL_removeRule 15 = .ok (.iconst 0, 1) := by decide +kernel
theorem dL_removeRule_16 : decode cL_removeRule 16 = .ok (.ireturn, 1) := by decide +kernel
theorem dL_ruleAt_0 : decode cL_ruleAt 0 = .ok (.aload_n 3, 1) := by decide +kernel
theorem dL_ruleAt_1 : decode cL_ruleAt 1 = .ok (.iconst 0, 1) := by decide +kernel
theorem dL_ruleAt_2 : decode cL_ruleAt 2 = .ok (.aload_n 0, 1) := by decide +kernel
theorem dL_ruleAt_3 : decode cL_ruleAt 3 = .ok (.iload_n 1, 1) := by decide +kernel
theorem dL_ruleAt_4 : decode cL_ruleAt 4 = .ok (.iload_n 2, 1) := by decide +kernel
theorem dL_ruleAt_5 : decode cL_ruleAt 5 = .ok (.invokevirtual 34, 3) := by decide +kernel
theorem dL_ruleAt_8 : decode cL_ruleAt 8 = .ok (.i2l, 1) := by decide +kernel
theorem dL_ruleAt_9 : decode cL_ruleAt 9 = .ok (.lastore, 1) := by decide +kernel
theorem dL_ruleAt_10 : decode cL_ruleAt 10 = .ok (.goto 11, 3) := by decide +kernel
theorem dL_ruleAt_13 : decode cL_ruleAt 13 = .ok (.astore 4, 2) := by decide +kernel
theorem dL_ruleAt_15 : decode cL_ruleAt 15 = .ok (.iconst 1, 1) := by decide +kernel
theorem dL_ruleAt_16 : decode cL_ruleAt 16 = .ok (.ireturn, 1) := by decide +kernel
theorem dL_ruleAt_17 : decode cL_ruleAt 17 = .ok (.astore 4, 2) := by decide +kernel
theorem dL_ruleAt_19 : decode cL_ruleAt 19 = .ok (.iconst 2, 1) := by decide +kernel
theorem dL_ruleAt_20 : decode cL_ruleAt 20 = .ok (.ireturn, 1) := by decide +kernel
theorem dL_ruleAt_21 : decode cL_ruleAt 21 = .ok (.iconst 0, 1) := by decide +kernel
theorem dL_ruleAt_22 : decode cL_ruleAt 22 = .ok (.ireturn, 1) := by decide +kernel
theorem dL_turnException_0 : decode cL_turnException 0 = .ok (.aload_n 1, 1) := by decide +kernel
theorem dL_turnException_1 : decode cL_turnException 1 = .ok (.iconst 0, 1) := by decide +kernel
theorem dL_turnException_2 : decode cL_turnException 2 = .ok (.aload_n 0, 1) := by decide +kernel
theorem dL_turnException_3 : decode cL_turnException 3 = .ok (.invokevirtual 38, 3) := by decide +kernel
theorem dL_turnException_6 : decode cL_turnException 6 = .ok (.ifCond .eq 7, 3) := by decide +kernel
theorem dL_turnException_9 : decode cL_turnException 9 = .ok (.lconst 1, 1) := by decide +kernel
theorem dL_turnException_10 : decode cL_turnException 10 = .ok (.goto 4, 3) := by decide +kernel
theorem dL_turnException_13 : decode cL_turnException 13 = .ok (.lconst 0, 1) := by decide +kernel
theorem dL_turnException_14 : decode cL_turnException 14 = .ok (.lastore, 1) := by decide +kernel
theorem dL_turnException_15 : decode cL_turnException 15 = .ok (.goto 9, 3) := by decide +kernel
theorem dL_turnException_18 : decode cL_turnException 18 = .ok (.astore_n 2, 1) := by decide +kernel
theorem dL_turnException_19 : decode cL_turnException 19 = .ok (.iconst 1, 1) := by decide +kernel
theorem dL_turnException_20 : decode cL_turnException 20 = .ok (.ireturn, 1) := by decide +kernel
theorem dL_turnException_21 : decode cL_turnException 21 = .ok (.astore_n 2, 1) := by decide +kernel
theorem dL_turnException_22 : decode cL_turnException 22 = .ok (.iconst 2, 1) := by decide +kernel
theorem dL_turnException_23 : decode cL_turnException 23 = .ok (.ireturn, 1) := by decide +kernel
theorem dL_turnException_24 : decode cL_turnException 24 = .ok (.iconst 0, 1) := by decide +kernel
theorem dL_turnException_25 : decode cL_turnException 25 = .ok (.ireturn, 1) := by decide +kernel
theorem dL_setText_0 : decode cL_setText 0 = .ok (.aload_n 3, 1) := by decide +kernel
theorem dL_setText_1 : decode cL_setText 1 = .ok (.iconst 0, 1) := by decide +kernel
theorem dL_setText_2 : decode cL_setText 2 = .ok (.aload_n 0, 1) := by decide +kernel
theorem dL_setText_3 : decode cL_setText 3 = .ok (.iload_n 1, 1) := by decide +kernel
theorem dL_setText_4 : decode cL_setText 4 = .ok (.iload_n 2, 1) := by decide +kernel
theorem dL_setText_5 : decode cL_setText 5 = .ok (.invokevirtual 42, 3) := by decide +kernel
theorem dL_setText_8 : decode cL_setText 8 = .ok (.i2l, 1) := by decide +kernel
theorem dL_setText_9 : decode cL_setText 9 = .ok (.lastore, 1) := by decide +kernel
theorem dL_setText_10 : decode cL_setText 10 = .ok (.goto 11, 3) := by decide +kernel
theorem dL_setText_13 : decode cL_setText 13 = .ok (.astore 4, 2) := by decide +kernel
theorem dL_setText_15 : decode cL_setText 15 = .ok (.iconst 1, 1) := by decide +kernel
theorem dL_setText_16 : decode cL_setText 16 = .ok (.ireturn, 1) := by decide +kernel
theorem dL_setText_17 : decode cL_setText 17 = .ok (.astore 4, 2) := by decide +kernel
theorem dL_setText_19 : decode cL_setText 19 = .ok (.iconst 2, 1) := by decide +kernel
theorem dL_setText_20 : decode cL_setText 20 = .ok (.ireturn, 1) := by decide +kernel
theorem dL_setText_21 : decode cL_setText 21 = .ok (.iconst 0, 1) := by decide +kernel
theorem dL_setText_22 : decode cL_setText 22 = .ok (.ireturn, 1) := by decide +kernel
theorem dL_setWidth_0 : decode cL_setWidth 0 = .ok (.aload_n 2, 1) := by decide +kernel
theorem dL_setWidth_1 : decode cL_setWidth 1 = .ok (.iconst 0, 1) := by decide +kernel
theorem dL_setWidth_2 : decode cL_setWidth 2 = .ok (.aload_n 0, 1) := by decide +kernel
theorem dL_setWidth_3 : decode cL_setWidth 3 = .ok (.iload_n 1, 1) := by decide +kernel
theorem dL_setWidth_4 : decode cL_setWidth 4 = .ok (.invokevirtual 46, 3) := by decide +kernel
theorem dL_setWidth_7 : decode cL_setWidth 7 = .ok (.i2l, 1) := by decide +kernel
theorem dL_setWidth_8 : decode cL_setWidth 8 = .ok (.lastore, 1) := by decide +kernel
theorem dL_setWidth_9 : decode cL_setWidth 9 = .ok (.goto 6, 3) := by decide +kernel
theorem dL_setWidth_12 : decode cL_setWidth 12 = .ok (.astore_n 3, 1) := by decide +kernel
theorem dL_setWidth_13 : decode cL_setWidth 13 = .ok (.iconst 1, 1) := by decide +kernel
theorem dL_setWidth_14 : decode cL_setWidth 14 = .ok (.ireturn, 1) := by decide +kernel
theorem dL_setWidth_15 : decode cL_setWidth 15 = .ok (.iconst 0, 1) := by decide +kernel
theorem dL_setWidth_16 : decode cL_setWidth 16 = .ok (.ireturn, 1) := by decide +kernel
theorem dL_words_0 : decode cL_words 0 = .ok (.aload_n 2, 1) := by decide +kernel
theorem dL_words_1 : decode cL_words 1 = .ok (.iconst 0, 1) := by decide +kernel
theorem dL_words_2 : decode cL_words 2 = .ok (.aload_n 0, 1) := by decide +kernel
theorem dL_words_3 : decode cL_words 3 = .ok (.iload_n 1, 1) := by decide +kernel
theorem dL_words_4 : decode cL_words 4 = .ok (.invokevirtual 49, 3) := by decide +kernel
theorem dL_words_7 : decode cL_words 7 = .ok (.i2l, 1) := by decide +kernel
theorem dL_words_8 : decode cL_words 8 = .ok (.lastore, 1) := by decide +kernel
theorem dL_words_9 : decode cL_words 9 = .ok (.goto 6, 3) := by decide +kernel
theorem dL_words_12 : decode cL_words 12 = .ok (.astore_n 3, 1) := by decide +kernel
theorem dL_words_13 : decode cL_words 13 = .ok (.iconst 1, 1) := by decide +kernel
theorem dL_words_14 : decode cL_words 14 = .ok (.ireturn, 1) := by decide +kernel
theorem dL_words_15 : decode cL_words 15 = .ok (.iconst 0, 1) := by decide +kernel
theorem dL_words_16 : decode cL_words 16 = .ok (.ireturn, 1) := by decide +kernel
theorem dL_length_0 : decode cL_length 0 = .ok (.aload_n 3, 1) := by decide +kernel
theorem dL_length_1 : decode cL_length 1 = .ok (.iconst 0, 1) := by decide +kernel
theorem dL_length_2 : decode cL_length 2 = .ok (.aload_n 0, 1) := by decide +kernel
theorem dL_length_3 : decode cL_length 3 = .ok (.iload_n 1, 1) := by decide +kernel
theorem dL_length_4 : decode cL_length 4 = .ok (.iload_n 2, 1) := by decide +kernel
theorem dL_length_5 : decode cL_length 5 = .ok (.invokevirtual 52, 3) := by decide +kernel
theorem dL_length_8 : decode cL_length 8 = .ok (.i2l, 1) := by decide +kernel
theorem dL_length_9 : decode cL_length 9 = .ok (.lastore, 1) := by decide +kernel
theorem dL_length_10 : decode cL_length 10 = .ok (.goto 7, 3) := by decide +kernel
theorem dL_length_13 : decode cL_length 13 = .ok (.astore 4, 2) := by decide +kernel
theorem dL_length_15 : decode cL_length 15 = .ok (.iconst 1, 1) := by decide +kernel
theorem dL_length_16 : decode cL_length 16 = .ok (.ireturn, 1) := by decide +kernel
theorem dL_length_17 : decode cL_length 17 = .ok (.iconst 0, 1) := by decide +kernel
theorem dL_length_18 : decode cL_length 18 = .ok (.ireturn, 1) := by decide +kernel
theorem dL_cellOf_0 : decode cL_cellOf 0 = .ok (.aload 4, 2) := by decide +kernel
theorem dL_cellOf_2 : decode cL_cellOf 2 = .ok (.iconst 0, 1) := by decide +kernel
theorem dL_cellOf_3 : decode cL_cellOf 3 = .ok (.aload_n 0, 1) := by decide +kernel
theorem dL_cellOf_4 : decode cL_cellOf 4 = .ok (.iload_n 1, 1) := by decide +kernel
theorem dL_cellOf_5 : decode cL_cellOf 5 = .ok (.iload_n 2, 1) := by decide +kernel
theorem dL_cellOf_6 : decode cL_cellOf 6 = .ok (.iload_n 3, 1) := by decide +kernel
theorem dL_cellOf_7 : decode cL_cellOf 7 = .ok (.invokevirtual 55, 3) := by decide +kernel
theorem dL_cellOf_10 : decode cL_cellOf 10 = .ok (.i2l, 1) := by decide +kernel
theorem dL_cellOf_11 : decode cL_cellOf 11 = .ok (.lastore, 1) := by decide +kernel
theorem dL_cellOf_12 : decode cL_cellOf 12 = .ok (.goto 11, 3) := by decide +kernel
theorem dL_cellOf_15 : decode cL_cellOf 15 = .ok (.astore 5, 2) := by decide +kernel
theorem dL_cellOf_17 : decode cL_cellOf 17 = .ok (.iconst 1, 1) := by decide +kernel
theorem dL_cellOf_18 : decode cL_cellOf 18 = .ok (.ireturn, 1) := by decide +kernel
theorem dL_cellOf_19 : decode cL_cellOf 19 = .ok (.astore 5, 2) := by decide +kernel
theorem dL_cellOf_21 : decode cL_cellOf 21 = .ok (.iconst 2, 1) := by decide +kernel
theorem dL_cellOf_22 : decode cL_cellOf 22 = .ok (.ireturn, 1) := by decide +kernel
theorem dL_cellOf_23 : decode cL_cellOf 23 = .ok (.iconst 0, 1) := by decide +kernel
theorem dL_cellOf_24 : decode cL_cellOf 24 = .ok (.ireturn, 1) := by decide +kernel
theorem dL_lines_0 : decode cL_lines 0 = .ok (.aload_n 2, 1) := by decide +kernel
theorem dL_lines_1 : decode cL_lines 1 = .ok (.iconst 0, 1) := by decide +kernel
theorem dL_lines_2 : decode cL_lines 2 = .ok (.aload_n 0, 1) := by decide +kernel
theorem dL_lines_3 : decode cL_lines 3 = .ok (.iload_n 1, 1) := by decide +kernel
theorem dL_lines_4 : decode cL_lines 4 = .ok (.invokevirtual 58, 3) := by decide +kernel
theorem dL_lines_7 : decode cL_lines 7 = .ok (.i2l, 1) := by decide +kernel
theorem dL_lines_8 : decode cL_lines 8 = .ok (.lastore, 1) := by decide +kernel
theorem dL_lines_9 : decode cL_lines 9 = .ok (.goto 6, 3) := by decide +kernel
theorem dL_lines_12 : decode cL_lines 12 = .ok (.astore_n 3, 1) := by decide +kernel
theorem dL_lines_13 : decode cL_lines 13 = .ok (.iconst 1, 1) := by decide +kernel
theorem dL_lines_14 : decode cL_lines 14 = .ok (.ireturn, 1) := by decide +kernel
theorem dL_lines_15 : decode cL_lines 15 = .ok (.iconst 0, 1) := by decide +kernel
theorem dL_lines_16 : decode cL_lines 16 = .ok (.ireturn, 1) := by decide +kernel
theorem dL_lineAt_0 : decode cL_lineAt 0 = .ok (.aload 4, 2) := by decide +kernel
theorem dL_lineAt_2 : decode cL_lineAt 2 = .ok (.iconst 0, 1) := by decide +kernel
theorem dL_lineAt_3 : decode cL_lineAt 3 = .ok (.aload_n 0, 1) := by decide +kernel
theorem dL_lineAt_4 : decode cL_lineAt 4 = .ok (.iload_n 1, 1) := by decide +kernel
theorem dL_lineAt_5 : decode cL_lineAt 5 = .ok (.iload_n 2, 1) := by decide +kernel
theorem dL_lineAt_6 : decode cL_lineAt 6 = .ok (.iload_n 3, 1) := by decide +kernel
theorem dL_lineAt_7 : decode cL_lineAt 7 = .ok (.invokevirtual 61, 3) := by decide +kernel
theorem dL_lineAt_10 : decode cL_lineAt 10 = .ok (.i2l, 1) := by decide +kernel
theorem dL_lineAt_11 : decode cL_lineAt 11 = .ok (.lastore, 1) := by decide +kernel
theorem dL_lineAt_12 : decode cL_lineAt 12 = .ok (.goto 11, 3) := by decide +kernel
theorem dL_lineAt_15 : decode cL_lineAt 15 = .ok (.astore 5, 2) := by decide +kernel
theorem dL_lineAt_17 : decode cL_lineAt 17 = .ok (.iconst 1, 1) := by decide +kernel
theorem dL_lineAt_18 : decode cL_lineAt 18 = .ok (.ireturn, 1) := by decide +kernel
theorem dL_lineAt_19 : decode cL_lineAt 19 = .ok (.astore 5, 2) := by decide +kernel
theorem dL_lineAt_21 : decode cL_lineAt 21 = .ok (.iconst 2, 1) := by decide +kernel
theorem dL_lineAt_22 : decode cL_lineAt 22 = .ok (.ireturn, 1) := by decide +kernel
theorem dL_lineAt_23 : decode cL_lineAt 23 = .ok (.iconst 0, 1) := by decide +kernel
theorem dL_lineAt_24 : decode cL_lineAt 24 = .ok (.ireturn, 1) := by decide +kernel
theorem dL_lineOf_0 : decode cL_lineOf 0 = .ok (.aload_n 3, 1) := by decide +kernel
theorem dL_lineOf_1 : decode cL_lineOf 1 = .ok (.iconst 0, 1) := by decide +kernel
theorem dL_lineOf_2 : decode cL_lineOf 2 = .ok (.aload_n 0, 1) := by decide +kernel
theorem dL_lineOf_3 : decode cL_lineOf 3 = .ok (.iload_n 1, 1) := by decide +kernel
theorem dL_lineOf_4 : decode cL_lineOf 4 = .ok (.iload_n 2, 1) := by decide +kernel
theorem dL_lineOf_5 : decode cL_lineOf 5 = .ok (.invokevirtual 64, 3) := by decide +kernel
theorem dL_lineOf_8 : decode cL_lineOf 8 = .ok (.i2l, 1) := by decide +kernel
theorem dL_lineOf_9 : decode cL_lineOf 9 = .ok (.lastore, 1) := by decide +kernel
theorem dL_lineOf_10 : decode cL_lineOf 10 = .ok (.goto 7, 3) := by decide +kernel
theorem dL_lineOf_13 : decode cL_lineOf 13 = .ok (.astore 4, 2) := by decide +kernel
theorem dL_lineOf_15 : decode cL_lineOf 15 = .ok (.iconst 1, 1) := by decide +kernel
theorem dL_lineOf_16 : decode cL_lineOf 16 = .ok (.ireturn, 1) := by decide +kernel
theorem dL_lineOf_17 : decode cL_lineOf 17 = .ok (.iconst 0, 1) := by decide +kernel
theorem dL_lineOf_18 : decode cL_lineOf 18 = .ok (.ireturn, 1) := by decide +kernel
theorem dL_emboss_0 : decode cL_emboss 0 = .ok (.aload_n 2, 1) := by decide +kernel
theorem dL_emboss_1 : decode cL_emboss 1 = .ok (.iconst 0, 1) := by decide +kernel
theorem dL_emboss_2 : decode cL_emboss 2 = .ok (.aload_n 0, 1) := by decide +kernel
theorem dL_emboss_3 : decode cL_emboss 3 = .ok (.iload_n 1, 1) := by decide +kernel
theorem dL_emboss_4 : decode cL_emboss 4 = .ok (.invokevirtual 67, 3) := by decide +kernel
theorem dL_emboss_7 : decode cL_emboss 7 = .ok (.i2l, 1) := by decide +kernel
theorem dL_emboss_8 : decode cL_emboss 8 = .ok (.lastore, 1) := by decide +kernel
theorem dL_emboss_9 : decode cL_emboss 9 = .ok (.goto 9, 3) := by decide +kernel
theorem dL_emboss_12 : decode cL_emboss 12 = .ok (.astore_n 3, 1) := by decide +kernel
theorem dL_emboss_13 : decode cL_emboss 13 = .ok (.iconst 1, 1) := by decide +kernel
theorem dL_emboss_14 : decode cL_emboss 14 = .ok (.ireturn, 1) := by decide +kernel
theorem dL_emboss_15 : decode cL_emboss 15 = .ok (.astore_n 3, 1) := by decide +kernel
theorem dL_emboss_16 : decode cL_emboss 16 = .ok (.iconst 2, 1) := by decide +kernel
theorem dL_emboss_17 : decode cL_emboss 17 = .ok (.ireturn, 1) := by decide +kernel
theorem dL_emboss_18 : decode cL_emboss 18 = .ok (.iconst 0, 1) := by decide +kernel
theorem dL_emboss_19 : decode cL_emboss 19 = .ok (.ireturn, 1) := by decide +kernel
theorem dL_changed_0 : decode cL_changed 0 = .ok (.aload_n 2, 1) := by decide +kernel
theorem dL_changed_1 : decode cL_changed 1 = .ok (.iconst 0, 1) := by decide +kernel
theorem dL_changed_2 : decode cL_changed 2 = .ok (.aload_n 0, 1) := by decide +kernel
theorem dL_changed_3 : decode cL_changed 3 = .ok (.iload_n 1, 1) := by decide +kernel
theorem dL_changed_4 : decode cL_changed 4 = .ok (.invokevirtual 70, 3) := by decide +kernel
theorem dL_changed_7 : decode cL_changed 7 = .ok (.i2l, 1) := by decide +kernel
theorem dL_changed_8 : decode cL_changed 8 = .ok (.lastore, 1) := by decide +kernel
theorem dL_changed_9 : decode cL_changed 9 = .ok (.goto 6, 3) := by decide +kernel
theorem dL_changed_12 : decode cL_changed 12 = .ok (.astore_n 3, 1) := by decide +kernel
theorem dL_changed_13 : decode cL_changed 13 = .ok (.iconst 1, 1) := by decide +kernel
theorem dL_changed_14 : decode cL_changed 14 = .ok (.ireturn, 1) := by decide +kernel
theorem dL_changed_15 : decode cL_changed 15 = .ok (.iconst 0, 1) := by decide +kernel
theorem dL_changed_16 : decode cL_changed 16 = .ok (.ireturn, 1) := by decide +kernel
theorem dL_setBearing_0 : decode cL_setBearing 0 = .ok (.aload_n 2, 1) := by decide +kernel
theorem dL_setBearing_1 : decode cL_setBearing 1 = .ok (.iconst 0, 1) := by decide +kernel
theorem dL_setBearing_2 : decode cL_setBearing 2 = .ok (.aload_n 0, 1) := by decide +kernel
theorem dL_setBearing_3 : decode cL_setBearing 3 = .ok (.iload_n 1, 1) := by decide +kernel
theorem dL_setBearing_4 : decode cL_setBearing 4 = .ok (.invokevirtual 73, 3) := by decide +kernel
theorem dL_setBearing_7 : decode cL_setBearing 7 = .ok (.i2l, 1) := by decide +kernel
theorem dL_setBearing_8 : decode cL_setBearing 8 = .ok (.lastore, 1) := by decide +kernel
theorem dL_setBearing_9 : decode cL_setBearing 9 = .ok (.goto 6, 3) := by decide +kernel
theorem dL_setBearing_12 : decode cL_setBearing 12 = .ok (.astore_n 3, 1) := by decide +kernel
theorem dL_setBearing_13 : decode cL_setBearing 13 = .ok (.iconst 1, 1) := by decide +kernel
theorem dL_setBearing_14 : decode cL_setBearing 14 = .ok (.ireturn, 1) := by decide +kernel
theorem dL_setBearing_15 : decode cL_setBearing 15 = .ok (.iconst 0, 1) := by decide +kernel
theorem dL_setBearing_16 : decode cL_setBearing 16 = .ok (.ireturn, 1) := by decide +kernel
theorem dL_replace_0 : decode cL_replace 0 = .ok (.aload_n 2, 1) := by decide +kernel
theorem dL_replace_1 : decode cL_replace 1 = .ok (.iconst 0, 1) := by decide +kernel
theorem dL_replace_2 : decode cL_replace 2 = .ok (.aload_n 0, 1) := by decide +kernel
theorem dL_replace_3 : decode cL_replace 3 = .ok (.iload_n 1, 1) := by decide +kernel
theorem dL_replace_4 : decode cL_replace 4 = .ok (.invokevirtual 76, 3) := by decide +kernel
theorem dL_replace_7 : decode cL_replace 7 = .ok (.i2l, 1) := by decide +kernel
theorem dL_replace_8 : decode cL_replace 8 = .ok (.lastore, 1) := by decide +kernel
theorem dL_replace_9 : decode cL_replace 9 = .ok (.goto 6, 3) := by decide +kernel
theorem dL_replace_12 : decode cL_replace 12 = .ok (.astore_n 3, 1) := by decide +kernel
theorem dL_replace_13 : decode cL_replace 13 = .ok (.iconst 1, 1) := by decide +kernel
theorem dL_replace_14 : decode cL_replace 14 = .ok (.ireturn, 1) := by decide +kernel
theorem dL_replace_15 : decode cL_replace 15 = .ok (.iconst 0, 1) := by decide +kernel
theorem dL_replace_16 : decode cL_replace 16 = .ok (.ireturn, 1) := by decide +kernel
theorem dL_strikes_0 : decode cL_strikes 0 = .ok (.aload_n 2, 1) := by decide +kernel
theorem dL_strikes_1 : decode cL_strikes 1 = .ok (.iconst 0, 1) := by decide +kernel
theorem dL_strikes_2 : decode cL_strikes 2 = .ok (.aload_n 0, 1) := by decide +kernel
theorem dL_strikes_3 : decode cL_strikes 3 = .ok (.iload_n 1, 1) := by decide +kernel
theorem dL_strikes_4 : decode cL_strikes 4 = .ok (.invokevirtual 79, 3) := by decide +kernel
theorem dL_strikes_7 : decode cL_strikes 7 = .ok (.i2l, 1) := by decide +kernel
theorem dL_strikes_8 : decode cL_strikes 8 = .ok (.lastore, 1) := by decide +kernel
theorem dL_strikes_9 : decode cL_strikes 9 = .ok (.goto 6, 3) := by decide +kernel
theorem dL_strikes_12 : decode cL_strikes 12 = .ok (.astore_n 3, 1) := by decide +kernel
theorem dL_strikes_13 : decode cL_strikes 13 = .ok (.iconst 1, 1) := by decide +kernel
theorem dL_strikes_14 : decode cL_strikes 14 = .ok (.ireturn, 1) := by decide +kernel
theorem dL_strikes_15 : decode cL_strikes 15 = .ok (.iconst 0, 1) := by decide +kernel
theorem dL_strikes_16 : decode cL_strikes 16 = .ok (.ireturn, 1) := by decide +kernel
theorem dL_mark_0 : decode cL_mark 0 = .ok (.aload 5, 2) := by decide +kernel
theorem dL_mark_2 : decode cL_mark 2 = .ok (.iconst 0, 1) := by decide +kernel
theorem dL_mark_3 : decode cL_mark 3 = .ok (.aload_n 0, 1) := by decide +kernel
theorem dL_mark_4 : decode cL_mark 4 = .ok (.iload_n 1, 1) := by decide +kernel
theorem dL_mark_5 : decode cL_mark 5 = .ok (.iload_n 2, 1) := by decide +kernel
theorem dL_mark_6 : decode cL_mark 6 = .ok (.iload_n 3, 1) := by decide +kernel
theorem dL_mark_7 : decode cL_mark 7 = .ok (.iload 4, 2) := by decide +kernel
theorem dL_mark_9 : decode cL_mark 9 = .ok (.invokevirtual 82, 3) := by decide +kernel
theorem dL_mark_12 : decode cL_mark 12 = .ok (.ifCond .eq 7, 3) := by decide +kernel
theorem dL_mark_15 : decode cL_mark 15 = .ok (.lconst 1, 1) := by decide +kernel
theorem dL_mark_16 : decode cL_mark 16 = .ok (.goto 4, 3) := by decide +kernel
theorem dL_mark_19 : decode cL_mark 19 = .ok (.lconst 0, 1) := by decide +kernel
theorem dL_mark_20 : decode cL_mark 20 = .ok (.lastore, 1) := by decide +kernel
theorem dL_mark_21 : decode cL_mark 21 = .ok (.goto 7, 3) := by decide +kernel
theorem dL_mark_24 : decode cL_mark 24 = .ok (.astore 6, 2) := by decide +kernel
theorem dL_mark_26 : decode cL_mark 26 = .ok (.iconst 1, 1) := by decide +kernel
theorem dL_mark_27 : decode cL_mark 27 = .ok (.ireturn, 1) := by decide +kernel
theorem dL_mark_28 : decode cL_mark 28 = .ok (.iconst 0, 1) := by decide +kernel
theorem dL_mark_29 : decode cL_mark 29 = .ok (.ireturn, 1) := by decide +kernel
theorem dL_markOf_0 : decode cL_markOf 0 = .ok (.aload 4, 2) := by decide +kernel
theorem dL_markOf_2 : decode cL_markOf 2 = .ok (.iconst 0, 1) := by decide +kernel
theorem dL_markOf_3 : decode cL_markOf 3 = .ok (.aload_n 0, 1) := by decide +kernel
theorem dL_markOf_4 : decode cL_markOf 4 = .ok (.iload_n 1, 1) := by decide +kernel
theorem dL_markOf_5 : decode cL_markOf 5 = .ok (.iload_n 2, 1) := by decide +kernel
theorem dL_markOf_6 : decode cL_markOf 6 = .ok (.iload_n 3, 1) := by decide +kernel
theorem dL_markOf_7 : decode cL_markOf 7 = .ok (.invokevirtual 86, 3) := by decide +kernel
theorem dL_markOf_10 : decode cL_markOf 10 = .ok (.i2l, 1) := by decide +kernel
theorem dL_markOf_11 : decode cL_markOf 11 = .ok (.lastore, 1) := by decide +kernel
theorem dL_markOf_12 : decode cL_markOf 12 = .ok (.goto 7, 3) := by decide +kernel
theorem dL_markOf_15 : decode cL_markOf 15 = .ok (.astore 5, 2) := by decide +kernel
theorem dL_markOf_17 : decode cL_markOf 17 = .ok (.iconst 1, 1) := by decide +kernel
theorem dL_markOf_18 : decode cL_markOf 18 = .ok (.ireturn, 1) := by decide +kernel
theorem dL_markOf_19 : decode cL_markOf 19 = .ok (.iconst 0, 1) := by decide +kernel
theorem dL_markOf_20 : decode cL_markOf 20 = .ok (.ireturn, 1) := by decide +kernel
theorem dL_provedShare_0 : decode cL_provedShare 0 = .ok (.aload_n 1, 1) := by decide +kernel
theorem dL_provedShare_1 : decode cL_provedShare 1 = .ok (.iconst 0, 1) := by decide +kernel
theorem dL_provedShare_2 : decode cL_provedShare 2 = .ok (.aload_n 0, 1) := by decide +kernel
theorem dL_provedShare_3 : decode cL_provedShare 3 = .ok (.invokevirtual 90, 3) := by decide +kernel
theorem dL_provedShare_6 : decode cL_provedShare 6 = .ok (.f2d, 1) := by decide +kernel
theorem dL_provedShare_7 : decode cL_provedShare 7 = .ok (.dastore, 1) := by decide +kernel
theorem dL_provedShare_8 : decode cL_provedShare 8 = .ok (.goto 6, 3) := by decide +kernel
theorem dL_provedShare_11 : decode cL_provedShare 11 = .ok (.astore_n 2, 1) := by decide +kernel
theorem dL_provedShare_12 : decode cL_provedShare 12 = .ok (.iconst 1, 1) := by decide +kernel
theorem dL_provedShare_13 : decode cL_provedShare 13 = .ok (.ireturn, 1) := by decide +kernel
theorem dL_provedShare_14 : decode cL_provedShare 14 = .ok (.iconst 0, 1) := by decide +kernel
theorem dL_provedShare_15 : decode cL_provedShare 15 = .ok (.ireturn, 1) := by decide +kernel
end
section
theorem dL_law_0 : decode cL_law 0 = .ok (.new 8, 3) := by decide +kernel
theorem dL_law_3 : decode cL_law 3 = .ok (.dup, 1) := by decide +kernel
theorem dL_law_4 : decode cL_law 4 = .ok (.invokespecial 96, 3) := by decide +kernel
theorem dL_law_7 : decode cL_law 7 = .ok (.astore_n 1, 1) := by decide +kernel
theorem dL_law_8 : decode cL_law 8 = .ok (.new 97, 3) := by decide +kernel
theorem dL_law_11 : decode cL_law 11 = .ok (.dup, 1) := by decide +kernel
theorem dL_law_12 : decode cL_law 12 = .ok (.invokespecial 99, 3) := by decide +kernel
theorem dL_law_15 : decode cL_law 15 = .ok (.astore_n 2, 1) := by decide +kernel
theorem dL_law_16 : decode cL_law 16 = .ok (.iconst 1, 1) := by decide +kernel
theorem dL_law_17 : decode cL_law 17 = .ok (.newarray .long, 2) := by decide +kernel
theorem dL_law_19 : decode cL_law 19 = .ok (.astore_n 3, 1) := by decide +kernel
theorem dL_law_20 : decode cL_law 20 = .ok (.iconst 1, 1) := by decide +kernel
theorem dL_law_21 : decode cL_law 21 = .ok (.newarray .double, 2) := by decide +kernel
theorem dL_law_23 : decode cL_law 23 = .ok (.astore 4, 2) := by decide +kernel
theorem dL_law_25 : decode cL_law 25 = .ok (.iconst 0, 1) := by decide +kernel
theorem dL_law_26 : decode cL_law 26 = .ok (.istore 5, 2) := by decide +kernel
theorem dL_law_28 : decode cL_law 28 = .ok (.iload 5, 2) := by decide +kernel
theorem dL_law_30 : decode cL_law 30 = .ok (.aload_n 0, 1) := by decide +kernel
theorem dL_law_31 : decode cL_law 31 = .ok (.arraylength, 1) := by decide +kernel
theorem dL_law_32 : decode cL_law 32 = .ok (.iconst 5, 1) := by decide +kernel
theorem dL_law_33 : decode cL_law 33 = .ok (.isub, 1) := by decide +kernel
theorem dL_law_34 : decode cL_law 34 = .ok (.if_icmp .gt 1683, 3) := by decide +kernel
theorem dL_law_37 : decode cL_law 37 = .ok (.aload_n 0, 1) := by decide +kernel
theorem dL_law_38 : decode cL_law 38 = .ok (.iload 5, 2) := by decide +kernel
theorem dL_law_40 : decode cL_law 40 = .ok (.iaload, 1) := by decide +kernel
theorem dL_law_41 : decode cL_law 41 = .ok (.bipush 31, 2) := by decide +kernel
theorem dL_law_43 : decode cL_law 43 = .ok (.iand, 1) := by decide +kernel
theorem dL_law_44 : decode cL_law 44 = .ok (.tableswitch 1667 0 25 #[120, 178, 191, 271, 351, 407, 475, 526, 594, 650, 706, 774, 854, 910, 990, 1058, 1114, 1170, 1226, 1282, 1338, 1453, 1533, 1547, 1613, 1654], 120) := by decide +kernel
theorem dL_law_164 : decode cL_law 164 = .ok (.aload_n 1, 1) := by decide +kernel
theorem dL_law_165 : decode cL_law 165 = .ok (.aload_n 0, 1) := by decide +kernel
theorem dL_law_166 : decode cL_law 166 = .ok (.iload 5, 2) := by decide +kernel
theorem dL_law_168 : decode cL_law 168 = .ok (.iconst 1, 1) := by decide +kernel
theorem dL_law_169 : decode cL_law 169 = .ok (.iadd, 1) := by decide +kernel
theorem dL_law_170 : decode cL_law 170 = .ok (.iaload, 1) := by decide +kernel
theorem dL_law_171 : decode cL_law 171 = .ok (.i2c, 1) := by decide +kernel
theorem dL_law_172 : decode cL_law 172 = .ok (.aload_n 3, 1) := by decide +kernel
theorem dL_law_173 : decode cL_law 173 = .ok (.invokestatic 100, 3) := by decide +kernel
theorem dL_law_176 : decode cL_law 176 = .ok (.istore 6, 2) := by decide +kernel
theorem dL_law_178 : decode cL_law 178 = .ok (.aload_n 2, 1) := by decide +kernel
theorem dL_law_179 : decode cL_law 179 = .ok (.aload_n 0, 1) := by decide +kernel
theorem dL_law_180 : decode cL_law 180 = .ok (.iload 5, 2) := by decide +kernel
theorem dL_law_182 : decode cL_law 182 = .ok (.iconst 1, 1) := by decide +kernel
theorem dL_law_183 : decode cL_law 183 = .ok (.iadd, 1) := by decide +kernel
theorem dL_law_184 : decode cL_law 184 = .ok (.iaload, 1) := by decide +kernel
theorem dL_law_185 : decode cL_law 185 = .ok (.i2c, 1) := by decide +kernel
theorem dL_law_186 : decode cL_law 186 = .ok (.invokevirtual 105, 3) := by decide +kernel
theorem dL_law_189 : decode cL_law 189 = .ok (.istore 7, 2) := by decide +kernel
theorem dL_law_191 : decode cL_law 191 = .ok (.aload_n 2, 1) := by decide +kernel
theorem dL_law_192 : decode cL_law 192 = .ok (.invokevirtual 106, 3) := by decide +kernel
theorem dL_law_195 : decode cL_law 195 = .ok (.iload 6, 2) := by decide +kernel
theorem dL_law_197 : decode cL_law 197 = .ok (.if_icmp .eq 5, 3) := by decide +kernel
theorem dL_law_200 : decode cL_law 200 = .ok (.iconst 0, 1) := by decide +kernel
theorem dL_law_201 : decode cL_law 201 = .ok (.ireturn, 1) := by decide +kernel
theorem dL_law_202 : decode cL_law 202 = .ok (.iload 6, 2) := by decide +kernel
theorem dL_law_204 : decode cL_law 204 = .ok (.ifCond .ne 15, 3) := by decide +kernel
theorem dL_law_207 : decode cL_law 207 = .ok (.aload_n 3, 1) := by decide +kernel
theorem dL_law_208 : decode cL_law 208 = .ok (.iconst 0, 1) := by decide +kernel
theorem dL_law_209 : decode cL_law 209 = .ok (.laload, 1) := by decide +kernel
theorem dL_law_210 : decode cL_law 210 = .ok (.iload 7, 2) := by decide +kernel
theorem dL_law_212 : decode cL_law 212 = .ok (.i2l, 1) := by decide +kernel
theorem dL_law_213 : decode cL_law 213 = .ok (.lcmp, 1) := by decide +kernel
theorem dL_law_214 : decode cL_law 214 = .ok (.ifCond .eq 5, 3) := by decide +kernel
theorem dL_law_217 : decode cL_law 217 = .ok (.iconst 0, 1) := by decide +kernel
theorem dL_law_218 : decode cL_law 218 = .ok (.ireturn, 1) := by decide +kernel
theorem dL_law_219 : decode cL_law 219 = .ok (.goto 1492, 3) := by decide +kernel
theorem dL_law_222 : decode cL_law 222 = .ok (.aload_n 1, 1) := by decide +kernel
theorem dL_law_223 : decode cL_law 223 = .ok (.invokevirtual 110, 3) := by decide +kernel
theorem dL_law_226 : decode cL_law 226 = .ok (.aload_n 2, 1) := by decide +kernel
theorem dL_law_227 : decode cL_law 227 = .ok (.invokevirtual 113, 3) := by decide +kernel
theorem dL_law_230 : decode cL_law 230 = .ok (.if_icmp .eq 1481, 3) := by decide +kernel
theorem dL_law_233 : decode cL_law 233 = .ok (.iconst 0, 1) := by decide +kernel
theorem dL_law_234 : decode cL_law 234 = .ok (.ireturn, 1) := by decide +kernel
theorem dL_law_235 : decode cL_law 235 = .ok (.aload_n 1, 1) := by decide +kernel
theorem dL_law_236 : decode cL_law 236 = .ok (.aload_n 0, 1) := by decide +kernel
theorem dL_law_237 : decode cL_law 237 = .ok (.iload 5, 2) := by decide +kernel
theorem dL_law_239 : decode cL_law 239 = .ok (.iconst 1, 1) := by decide +kernel
theorem dL_law_240 : decode cL_law 240 = .ok (.iadd, 1) := by decide +kernel
theorem dL_law_241 : decode cL_law 241 = .ok (.iaload, 1) := by decide +kernel
theorem dL_law_242 : decode cL_law 242 = .ok (.aload_n 0, 1) := by decide +kernel
theorem dL_law_243 : decode cL_law 243 = .ok (.iload 5, 2) := by decide +kernel
theorem dL_law_245 : decode cL_law 245 = .ok (.iconst 2, 1) := by decide +kernel
theorem dL_law_246 : decode cL_law 246 = .ok (.iadd, 1) := by decide +kernel
theorem dL_law_247 : decode cL_law 247 = .ok (.iaload, 1) := by decide +kernel
theorem dL_law_248 : decode cL_law 248 = .ok (.aload_n 0, 1) := by decide +kernel
theorem dL_law_249 : decode cL_law 249 = .ok (.iload 5, 2) := by decide +kernel
theorem dL_law_251 : decode cL_law 251 = .ok (.iconst 3, 1) := by decide +kernel
theorem dL_law_252 : decode cL_law 252 = .ok (.iadd, 1) := by decide +kernel
theorem dL_law_253 : decode cL_law 253 = .ok (.iaload, 1) := by decide +kernel
theorem dL_law_254 : decode cL_law 254 = .ok (.aload_n 3, 1) := by decide +kernel
theorem dL_law_255 : decode cL_law 255 = .ok (.invokestatic 114, 3) := by decide +kernel
theorem dL_law_258 : decode cL_law 258 = .ok (.istore 6, 2) := by decide +kernel
theorem dL_law_260 : decode cL_law 260 = .ok (.aload_n 2, 1) := by decide +kernel
theorem dL_law_261 : decode cL_law 261 = .ok (.aload_n 0, 1) := by decide +kernel
theorem dL_law_262 : decode cL_law 262 = .ok (.iload 5, 2) := by decide +kernel
theorem dL_law_264 : decode cL_law 264 = .ok (.iconst 1, 1) := by decide +kernel
theorem dL_law_265 : decode cL_law 265 = .ok (.iadd, 1) := by decide +kernel
theorem dL_law_266 : decode cL_law 266 = .ok (.iaload, 1) := by decide +kernel
theorem dL_law_267 : decode cL_law 267 = .ok (.aload_n 0, 1) := by decide +kernel
theorem dL_law_268 : decode cL_law 268 = .ok (.iload 5, 2) := by decide +kernel
theorem dL_law_270 : decode cL_law 270 = .ok (.iconst 2, 1) := by decide +kernel
theorem dL_law_271 : decode cL_law 271 = .ok (.iadd, 1) := by decide +kernel
theorem dL_law_272 : decode cL_law 272 = .ok (.iaload, 1) := by decide +kernel
theorem dL_law_273 : decode cL_law 273 = .ok (.aload_n 0, 1) := by decide +kernel
theorem dL_law_274 : decode cL_law 274 = .ok (.iload 5, 2) := by decide +kernel
theorem dL_law_276 : decode cL_law 276 = .ok (.iconst 3, 1) := by decide +kernel
theorem dL_law_277 : decode cL_law 277 = .ok (.iadd, 1) := by decide +kernel
theorem dL_law_278 : decode cL_law 278 = .ok (.iaload, 1) := by decide +kernel
theorem dL_law_279 : decode cL_law 279 = .ok (.invokevirtual 117, 3) := by decide +kernel
theorem dL_law_282 : decode cL_law 282 = .ok (.istore 7, 2) := by decide +kernel
theorem dL_law_284 : decode cL_law 284 = .ok (.aload_n 2, 1) := by decide +kernel
theorem dL_law_285 : decode cL_law 285 = .ok (.invokevirtual 106, 3) := by decide +kernel
theorem dL_law_288 : decode cL_law 288 = .ok (.iload 6, 2) := by decide +kernel
theorem dL_law_290 : decode cL_law 290 = .ok (.if_icmp .eq 5, 3) := by decide +kernel
theorem dL_law_293 : decode cL_law 293 = .ok (.iconst 0, 1) := by decide +kernel
theorem dL_law_294 : decode cL_law 294 = .ok (.ireturn, 1) := by decide +kernel
theorem dL_law_295 : decode cL_law 295 = .ok (.iload 6, 2) := by decide +kernel
theorem dL_law_297 : decode cL_law 297 = .ok (.ifCond .ne 15, 3) := by decide +kernel
theorem dL_law_300 : decode cL_law 300 = .ok (.aload_n 3, 1) := by decide +kernel
theorem dL_law_301 : decode cL_law 301 = .ok (.iconst 0, 1) := by decide +kernel
theorem dL_law_302 : decode cL_law 302 = .ok (.laload, 1) := by decide +kernel
theorem dL_law_303 : decode cL_law 303 = .ok (.iload 7, 2) := by decide +kernel
theorem dL_law_305 : decode cL_law 305 = .ok (.i2l, 1) := by decide +kernel
theorem dL_law_306 : decode cL_law 306 = .ok (.lcmp, 1) := by decide +kernel
theorem dL_law_307 : decode cL_law 307 = .ok (.ifCond .eq 5, 3) := by decide +kernel
theorem dL_law_310 : decode cL_law 310 = .ok (.iconst 0, 1) := by decide +kernel
theorem dL_law_311 : decode cL_law 311 = .ok (.ireturn, 1) := by decide +kernel
theorem dL_law_312 : decode cL_law 312 = .ok (.goto 1399, 3) := by decide +kernel
theorem dL_law_315 : decode cL_law 315 = .ok (.aload_n 1, 1) := by decide +kernel
theorem dL_law_316 : decode cL_law 316 = .ok (.aload_n 0, 1) := by decide +kernel
theorem dL_law_317 : decode cL_law 317 = .ok (.iload 5, 2) := by decide +kernel
theorem dL_law_319 : decode cL_law 319 = .ok (.iconst 1, 1) := by decide +kernel
theorem dL_law_320 : decode cL_law 320 = .ok (.iadd, 1) := by decide +kernel
theorem dL_law_321 : decode cL_law 321 = .ok (.iaload, 1) := by decide +kernel
theorem dL_law_322 : decode cL_law 322 = .ok (.aload_n 0, 1) := by decide +kernel
theorem dL_law_323 : decode cL_law 323 = .ok (.iload 5, 2) := by decide +kernel
theorem dL_law_325 : decode cL_law 325 = .ok (.iconst 2, 1) := by decide +kernel
theorem dL_law_326 : decode cL_law 326 = .ok (.iadd, 1) := by decide +kernel
theorem dL_law_327 : decode cL_law 327 = .ok (.iaload, 1) := by decide +kernel
theorem dL_law_328 : decode cL_law 328 = .ok (.aload_n 0, 1) := by decide +kernel
theorem dL_law_329 : decode cL_law 329 = .ok (.iload 5, 2) := by decide +kernel
theorem dL_law_331 : decode cL_law 331 = .ok (.iconst 3, 1) := by decide +kernel
theorem dL_law_332 : decode cL_law 332 = .ok (.iadd, 1) := by decide +kernel
theorem dL_law_333 : decode cL_law 333 = .ok (.iaload, 1) := by decide +kernel
theorem dL_law_334 : decode cL_law 334 = .ok (.aload_n 3, 1) := by decide +kernel
theorem dL_law_335 : decode cL_law 335 = .ok (.invokestatic 118, 3) := by decide +kernel
theorem dL_law_338 : decode cL_law 338 = .ok (.istore 6, 2) := by decide +kernel
theorem dL_law_340 : decode cL_law 340 = .ok (.aload_n 2, 1) := by decide +kernel
theorem dL_law_341 : decode cL_law 341 = .ok (.aload_n 0, 1) := by decide +kernel
theorem dL_law_342 : decode cL_law 342 = .ok (.iload 5, 2) := by decide +kernel
theorem dL_law_344 : decode cL_law 344 = .ok (.iconst 1, 1) := by decide +kernel
theorem dL_law_345 : decode cL_law 345 = .ok (.iadd, 1) := by decide +kernel
theorem dL_law_346 : decode cL_law 346 = .ok (.iaload, 1) := by decide +kernel
theorem dL_law_347 : decode cL_law 347 = .ok (.aload_n 0, 1) := by decide +kernel
theorem dL_law_348 : decode cL_law 348 = .ok (.iload 5, 2) := by decide +kernel
theorem dL_law_350 : decode cL_law 350 = .ok (.iconst 2, 1) := by decide +kernel
theorem dL_law_351 : decode cL_law 351 = .ok (.iadd, 1) := by decide +kernel
theorem dL_law_352 : decode cL_law 352 = .ok (.iaload, 1) := by decide +kernel
theorem dL_law_353 : decode cL_law 353 = .ok (.aload_n 0, 1) := by decide +kernel
theorem dL_law_354 : decode cL_law 354 = .ok (.iload 5, 2) := by decide +kernel
theorem dL_law_356 : decode cL_law 356 = .ok (.iconst 3, 1) := by decide +kernel
theorem dL_law_357 : decode cL_law 357 = .ok (.iadd, 1) := by decide +kernel
theorem dL_law_358 : decode cL_law 358 = .ok (.iaload, 1) := by decide +kernel
theorem dL_law_359 : decode cL_law 359 = .ok (.invokevirtual 120, 3) := by decide +kernel
theorem dL_law_362 : decode cL_law 362 = .ok (.istore 7, 2) := by decide +kernel
theorem dL_law_364 : decode cL_law 364 = .ok (.aload_n 2, 1) := by decide +kernel
theorem dL_law_365 : decode cL_law 365 = .ok (.invokevirtual 106, 3) := by decide +kernel
theorem dL_law_368 : decode cL_law 368 = .ok (.iload 6, 2) := by decide +kernel
theorem dL_law_370 : decode cL_law 370 = .ok (.if_icmp .eq 5, 3) := by decide +kernel
theorem dL_law_373 : decode cL_law 373 = .ok (.iconst 0, 1) := by decide +kernel
theorem dL_law_374 : decode cL_law 374 = .ok (.ireturn, 1) := by decide +kernel
theorem dL_law_375 : decode cL_law 375 = .ok (.iload 6, 2) := by decide +kernel
theorem dL_law_377 : decode cL_law 377 = .ok (.ifCond .ne 15, 3) := by decide +kernel
theorem dL_law_380 : decode cL_law 380 = .ok (.aload_n 3, 1) := by decide +kernel
theorem dL_law_381 : decode cL_law 381 = .ok (.iconst 0, 1) := by decide +kernel
theorem dL_law_382 : decode cL_law 382 = .ok (.laload, 1) := by decide +kernel
theorem dL_law_383 : decode cL_law 383 = .ok (.iload 7, 2) := by decide +kernel
theorem dL_law_385 : decode cL_law 385 = .ok (.i2l, 1) := by decide +kernel
theorem dL_law_386 : decode cL_law 386 = .ok (.lcmp, 1) := by decide +kernel
theorem dL_law_387 : decode cL_law 387 = .ok (.ifCond .eq 5, 3) := by decide +kernel
theorem dL_law_390 : decode cL_law 390 = .ok (.iconst 0, 1) := by decide +kernel
theorem dL_law_391 : decode cL_law 391 = .ok (.ireturn, 1) := by decide +kernel
theorem dL_law_392 : decode cL_law 392 = .ok (.goto 1319, 3) := by decide +kernel
theorem dL_law_395 : decode cL_law 395 = .ok (.aload_n 1, 1) := by decide +kernel
theorem dL_law_396 : decode cL_law 396 = .ok (.aload_n 0, 1) := by decide +kernel
theorem dL_law_397 : decode cL_law 397 = .ok (.iload 5, 2) := by decide +kernel
theorem dL_law_399 : decode cL_law 399 = .ok (.iconst 1, 1) := by decide +kernel
theorem dL_law_400 : decode cL_law 400 = .ok (.iadd, 1) := by decide +kernel
theorem dL_law_401 : decode cL_law 401 = .ok (.iaload, 1) := by decide +kernel
theorem dL_law_402 : decode cL_law 402 = .ok (.aload_n 3, 1) := by decide +kernel
theorem dL_law_403 : decode cL_law 403 = .ok (.invokestatic 121, 3) := by decide +kernel
theorem dL_law_406 : decode cL_law 406 = .ok (.istore 6, 2) := by decide +kernel
theorem dL_law_408 : decode cL_law 408 = .ok (.aload_n 2, 1) := by decide +kernel
theorem dL_law_409 : decode cL_law 409 = .ok (.aload_n 0, 1) := by decide +kernel
theorem dL_law_410 : decode cL_law 410 = .ok (.iload 5, 2) := by decide +kernel
theorem dL_law_412 : decode cL_law 412 = .ok (.iconst 1, 1) := by decide +kernel
theorem dL_law_413 : decode cL_law 413 = .ok (.iadd, 1) := by decide +kernel
theorem dL_law_414 : decode cL_law 414 = .ok (.iaload, 1) := by decide +kernel
theorem dL_law_415 : decode cL_law 415 = .ok (.invokevirtual 124, 3) := by decide +kernel
theorem dL_law_418 : decode cL_law 418 = .ok (.istore 7, 2) := by decide +kernel
theorem dL_law_420 : decode cL_law 420 = .ok (.aload_n 2, 1) := by decide +kernel
theorem dL_law_421 : decode cL_law 421 = .ok (.invokevirtual 106, 3) := by decide +kernel
theorem dL_law_424 : decode cL_law 424 = .ok (.iload 6, 2) := by decide +kernel
theorem dL_law_426 : decode cL_law 426 = .ok (.if_icmp .eq 5, 3) := by decide +kernel
theorem dL_law_429 : decode cL_law 429 = .ok (.iconst 0, 1) := by decide +kernel
theorem dL_law_430 : decode cL_law 430 = .ok (.ireturn, 1) := by decide +kernel
theorem dL_law_431 : decode cL_law 431 = .ok (.iload 6, 2) := by decide +kernel
theorem dL_law_433 : decode cL_law 433 = .ok (.ifCond .ne 15, 3) := by decide +kernel
theorem dL_law_436 : decode cL_law 436 = .ok (.aload_n 3, 1) := by decide +kernel
theorem dL_law_437 : decode cL_law 437 = .ok (.iconst 0, 1) := by decide +kernel
theorem dL_law_438 : decode cL_law 438 = .ok (.laload, 1) := by decide +kernel
theorem dL_law_439 : decode cL_law 439 = .ok (.iload 7, 2) := by decide +kernel
theorem dL_law_441 : decode cL_law 441 = .ok (.i2l, 1) := by decide +kernel
theorem dL_law_442 : decode cL_law 442 = .ok (.lcmp, 1) := by decide +kernel
theorem dL_law_443 : decode cL_law 443 = .ok (.ifCond .eq 5, 3) := by decide +kernel
theorem dL_law_446 : decode cL_law 446 = .ok (.iconst 0, 1) := by decide +kernel
theorem dL_law_447 : decode cL_law 447 = .ok (.ireturn, 1) := by decide +kernel
theorem dL_law_448 : decode cL_law 448 = .ok (.goto 1263, 3) := by decide +kernel
theorem dL_law_451 : decode cL_law 451 = .ok (.aload_n 1, 1) := by decide +kernel
theorem dL_law_452 : decode cL_law 452 = .ok (.aload_n 0, 1) := by decide +kernel
theorem dL_law_453 : decode cL_law 453 = .ok (.iload 5, 2) := by decide +kernel
theorem dL_law_455 : decode cL_law 455 = .ok (.iconst 1, 1) := by decide +kernel
theorem dL_law_456 : decode cL_law 456 = .ok (.iadd, 1) := by decide +kernel
theorem dL_law_457 : decode cL_law 457 = .ok (.iaload, 1) := by decide +kernel
theorem dL_law_458 : decode cL_law 458 = .ok (.aload_n 0, 1) := by decide +kernel
theorem dL_law_459 : decode cL_law 459 = .ok (.iload 5, 2) := by decide +kernel
theorem dL_law_461 : decode cL_law 461 = .ok (.iconst 2, 1) := by decide +kernel
theorem dL_law_462 : decode cL_law 462 = .ok (.iadd, 1) := by decide +kernel
theorem dL_law_463 : decode cL_law 463 = .ok (.iaload, 1) := by decide +kernel
theorem dL_law_464 : decode cL_law 464 = .ok (.aload_n 3, 1) := by decide +kernel
theorem dL_law_465 : decode cL_law 465 = .ok (.invokestatic 125, 3) := by decide +kernel
theorem dL_law_468 : decode cL_law 468 = .ok (.istore 6, 2) := by decide +kernel
theorem dL_law_470 : decode cL_law 470 = .ok (.aload_n 2, 1) := by decide +kernel
theorem dL_law_471 : decode cL_law 471 = .ok (.aload_n 0, 1) := by decide +kernel
theorem dL_law_472 : decode cL_law 472 = .ok (.iload 5, 2) := by decide +kernel
theorem dL_law_474 : decode cL_law 474 = .ok (.iconst 1, 1) := by decide +kernel
theorem dL_law_475 : decode cL_law 475 = .ok (.iadd, 1) := by decide +kernel
theorem dL_law_476 : decode cL_law 476 = .ok (.iaload, 1) := by decide +kernel
theorem dL_law_477 : decode cL_law 477 = .ok (.aload_n 0, 1) := by decide +kernel
theorem dL_law_478 : decode cL_law 478 = .ok (.iload 5, 2) := by decide +kernel
theorem dL_law_480 : decode cL_law 480 = .ok (.iconst 2, 1) := by decide +kernel
theorem dL_law_481 : decode cL_law 481 = .ok (.iadd, 1) := by decide +kernel
theorem dL_law_482 : decode cL_law 482 = .ok (.iaload, 1) := by decide +kernel
theorem dL_law_483 : decode cL_law 483 = .ok (.invokevirtual 128, 3) := by decide +kernel
theorem dL_law_486 : decode cL_law 486 = .ok (.istore 7, 2) := by decide +kernel
theorem dL_law_488 : decode cL_law 488 = .ok (.aload_n 2, 1) := by decide +kernel
theorem dL_law_489 : decode cL_law 489 = .ok (.invokevirtual 106, 3) := by decide +kernel
theorem dL_law_492 : decode cL_law 492 = .ok (.iload 6, 2) := by decide +kernel
theorem dL_law_494 : decode cL_law 494 = .ok (.if_icmp .eq 5, 3) := by decide +kernel
theorem dL_law_497 : decode cL_law 497 = .ok (.iconst 0, 1) := by decide +kernel
theorem dL_law_498 : decode cL_law 498 = .ok (.ireturn, 1) := by decide +kernel
theorem dL_law_499 : decode cL_law 499 = .ok (.iload 6, 2) := by decide +kernel
theorem dL_law_501 : decode cL_law 501 = .ok (.ifCond .ne 15, 3) := by decide +kernel
theorem dL_law_504 : decode cL_law 504 = .ok (.aload_n 3, 1) := by decide +kernel
theorem dL_law_505 : decode cL_law 505 = .ok (.iconst 0, 1) := by decide +kernel
theorem dL_law_506 : decode cL_law 506 = .ok (.laload, 1) := by decide +kernel
theorem dL_law_507 : decode cL_law 507 = .ok (.iload 7, 2) := by decide +kernel
theorem dL_law_509 : decode cL_law 509 = .ok (.i2l, 1) := by decide +kernel
theorem dL_law_510 : decode cL_law 510 = .ok (.lcmp, 1) := by decide +kernel
theorem dL_law_511 : decode cL_law 511 = .ok (.ifCond .eq 5, 3) := by decide +kernel
theorem dL_law_514 : decode cL_law 514 = .ok (.iconst 0, 1) := by decide +kernel
theorem dL_law_515 : decode cL_law 515 = .ok (.ireturn, 1) := by decide +kernel
theorem dL_law_516 : decode cL_law 516 = .ok (.goto 1195, 3) := by decide +kernel
theorem dL_law_519 : decode cL_law 519 = .ok (.aload_n 1, 1) := by decide +kernel
theorem dL_law_520 : decode cL_law 520 = .ok (.aload_n 3, 1) := by decide +kernel
theorem dL_law_521 : decode cL_law 521 = .ok (.invokestatic 129, 3) := by decide +kernel
theorem dL_law_524 : decode cL_law 524 = .ok (.istore 6, 2) := by decide +kernel
theorem dL_law_526 : decode cL_law 526 = .ok (.aload_n 2, 1) := by decide +kernel
theorem dL_law_527 : decode cL_law 527 = .ok (.invokevirtual 132, 3) := by decide +kernel
theorem dL_law_530 : decode cL_law 530 = .ok (.istore 7, 2) := by decide +kernel
theorem dL_law_532 : decode cL_law 532 = .ok (.aload_n 2, 1) := by decide +kernel
theorem dL_law_533 : decode cL_law 533 = .ok (.invokevirtual 106, 3) := by decide +kernel
theorem dL_law_536 : decode cL_law 536 = .ok (.iload 6, 2) := by decide +kernel
theorem dL_law_538 : decode cL_law 538 = .ok (.if_icmp .eq 5, 3) := by decide +kernel
theorem dL_law_541 : decode cL_law 541 = .ok (.iconst 0, 1) := by decide +kernel
theorem dL_law_542 : decode cL_law 542 = .ok (.ireturn, 1) := by decide +kernel
theorem dL_law_543 : decode cL_law 543 = .ok (.iload 6, 2) := by decide +kernel
theorem dL_law_545 : decode cL_law 545 = .ok (.ifCond .ne 22, 3) := by decide +kernel
theorem dL_law_548 : decode cL_law 548 = .ok (.aload_n 3, 1) := by decide +kernel
theorem dL_law_549 : decode cL_law 549 = .ok (.iconst 0, 1) := by decide +kernel
theorem dL_law_550 : decode cL_law 550 = .ok (.laload, 1) := by decide +kernel
theorem dL_law_551 : decode cL_law 551 = .ok (.iload 7, 2) := by decide +kernel
theorem dL_law_553 : decode cL_law 553 = .ok (.ifCond .eq 7, 3) := by decide +kernel
theorem dL_law_556 : decode cL_law 556 = .ok (.lconst 1, 1) := by decide +kernel
theorem dL_law_557 : decode cL_law 557 = .ok (.goto 4, 3) := by decide +kernel
theorem dL_law_560 : decode cL_law 560 = .ok (.lconst 0, 1) := by decide +kernel
theorem dL_law_561 : decode cL_law 561 = .ok (.lcmp, 1) := by decide +kernel
theorem dL_law_562 : decode cL_law 562 = .ok (.ifCond .eq 5, 3) := by decide +kernel
theorem dL_law_565 : decode cL_law 565 = .ok (.iconst 0, 1) := by decide +kernel
theorem dL_law_566 : decode cL_law 566 = .ok (.ireturn, 1) := by decide +kernel
theorem dL_law_567 : decode cL_law 567 = .ok (.goto 1144, 3) := by decide +kernel
theorem dL_law_570 : decode cL_law 570 = .ok (.aload_n 1, 1) := by decide +kernel
theorem dL_law_571 : decode cL_law 571 = .ok (.aload_n 0, 1) := by decide +kernel
theorem dL_law_572 : decode cL_law 572 = .ok (.iload 5, 2) := by decide +kernel
theorem dL_law_574 : decode cL_law 574 = .ok (.iconst 1, 1) := by decide +kernel
theorem dL_law_575 : decode cL_law 575 = .ok (.iadd, 1) := by decide +kernel
theorem dL_law_576 : decode cL_law 576 = .ok (.iaload, 1) := by decide +kernel
theorem dL_law_577 : decode cL_law 577 = .ok (.aload_n 0, 1) := by decide +kernel
theorem dL_law_578 : decode cL_law 578 = .ok (.iload 5, 2) := by decide +kernel
theorem dL_law_580 : decode cL_law 580 = .ok (.iconst 2, 1) := by decide +kernel
theorem dL_law_581 : decode cL_law 581 = .ok (.iadd, 1) := by decide +kernel
theorem dL_law_582 : decode cL_law 582 = .ok (.iaload, 1) := by decide +kernel
theorem dL_law_583 : decode cL_law 583 = .ok (.aload_n 3, 1) := by decide +kernel
theorem dL_law_584 : decode cL_law 584 = .ok (.invokestatic 133, 3) := by decide +kernel
theorem dL_law_587 : decode cL_law 587 = .ok (.istore 6, 2) := by decide +kernel
theorem dL_law_589 : decode cL_law 589 = .ok (.aload_n 2, 1) := by decide +kernel
theorem dL_law_590 : decode cL_law 590 = .ok (.aload_n 0, 1) := by decide +kernel
theorem dL_law_591 : decode cL_law 591 = .ok (.iload 5, 2) := by decide +kernel
theorem dL_law_593 : decode cL_law 593 = .ok (.iconst 1, 1) := by decide +kernel
theorem dL_law_594 : decode cL_law 594 = .ok (.iadd, 1) := by decide +kernel
theorem dL_law_595 : decode cL_law 595 = .ok (.iaload, 1) := by decide +kernel
theorem dL_law_596 : decode cL_law 596 = .ok (.aload_n 0, 1) := by decide +kernel
theorem dL_law_597 : decode cL_law 597 = .ok (.iload 5, 2) := by decide +kernel
theorem dL_law_599 : decode cL_law 599 = .ok (.iconst 2, 1) := by decide +kernel
theorem dL_law_600 : decode cL_law 600 = .ok (.iadd, 1) := by decide +kernel
theorem dL_law_601 : decode cL_law 601 = .ok (.iaload, 1) := by decide +kernel
theorem dL_law_602 : decode cL_law 602 = .ok (.invokevirtual 135, 3) := by decide +kernel
theorem dL_law_605 : decode cL_law 605 = .ok (.istore 7, 2) := by decide +kernel
theorem dL_law_607 : decode cL_law 607 = .ok (.aload_n 2, 1) := by decide +kernel
theorem dL_law_608 : decode cL_law 608 = .ok (.invokevirtual 106, 3) := by decide +kernel
theorem dL_law_611 : decode cL_law 611 = .ok (.iload 6, 2) := by decide +kernel
theorem dL_law_613 : decode cL_law 613 = .ok (.if_icmp .eq 5, 3) := by decide +kernel
theorem dL_law_616 : decode cL_law 616 = .ok (.iconst 0, 1) := by decide +kernel
theorem dL_law_617 : decode cL_law 617 = .ok (.ireturn, 1) := by decide +kernel
theorem dL_law_618 : decode cL_law 618 = .ok (.iload 6, 2) := by decide +kernel
theorem dL_law_620 : decode cL_law 620 = .ok (.ifCond .ne 15, 3) := by decide +kernel
theorem dL_law_623 : decode cL_law 623 = .ok (.aload_n 3, 1) := by decide +kernel
theorem dL_law_624 : decode cL_law 624 = .ok (.iconst 0, 1) := by decide +kernel
theorem dL_law_625 : decode cL_law 625 = .ok (.laload, 1) := by decide +kernel
theorem dL_law_626 : decode cL_law 626 = .ok (.iload 7, 2) := by decide +kernel
theorem dL_law_628 : decode cL_law 628 = .ok (.i2l, 1) := by decide +kernel
theorem dL_law_629 : decode cL_law 629 = .ok (.lcmp, 1) := by decide +kernel
theorem dL_law_630 : decode cL_law 630 = .ok (.ifCond .eq 5, 3) := by decide +kernel
theorem dL_law_633 : decode cL_law 633 = .ok (.iconst 0, 1) := by decide +kernel
theorem dL_law_634 : decode cL_law 634 = .ok (.ireturn, 1) := by decide +kernel
theorem dL_law_635 : decode cL_law 635 = .ok (.goto 1076, 3) := by decide +kernel
theorem dL_law_638 : decode cL_law 638 = .ok (.aload_n 1, 1) := by decide +kernel
theorem dL_law_639 : decode cL_law 639 = .ok (.aload_n 0, 1) := by decide +kernel
theorem dL_law_640 : decode cL_law 640 = .ok (.iload 5, 2) := by decide +kernel
theorem dL_law_642 : decode cL_law 642 = .ok (.iconst 1, 1) := by decide +kernel
theorem dL_law_643 : decode cL_law 643 = .ok (.iadd, 1) := by decide +kernel
theorem dL_law_644 : decode cL_law 644 = .ok (.iaload, 1) := by decide +kernel
theorem dL_law_645 : decode cL_law 645 = .ok (.aload_n 3, 1) := by decide +kernel
theorem dL_law_646 : decode cL_law 646 = .ok (.invokestatic 136, 3) := by decide +kernel
theorem dL_law_649 : decode cL_law 649 = .ok (.istore 6, 2) := by decide +kernel
theorem dL_law_651 : decode cL_law 651 = .ok (.aload_n 2, 1) := by decide +kernel
theorem dL_law_652 : decode cL_law 652 = .ok (.aload_n 0, 1) := by decide +kernel
theorem dL_law_653 : decode cL_law 653 = .ok (.iload 5, 2) := by decide +kernel
theorem dL_law_655 : decode cL_law 655 = .ok (.iconst 1, 1) := by decide +kernel
theorem dL_law_656 : decode cL_law 656 = .ok (.iadd, 1) := by decide +kernel
theorem dL_law_657 : decode cL_law 657 = .ok (.iaload, 1) := by decide +kernel
theorem dL_law_658 : decode cL_law 658 = .ok (.invokevirtual 138, 3) := by decide +kernel
theorem dL_law_661 : decode cL_law 661 = .ok (.istore 7, 2) := by decide +kernel
theorem dL_law_663 : decode cL_law 663 = .ok (.aload_n 2, 1) := by decide +kernel
theorem dL_law_664 : decode cL_law 664 = .ok (.invokevirtual 106, 3) := by decide +kernel
theorem dL_law_667 : decode cL_law 667 = .ok (.iload 6, 2) := by decide +kernel
theorem dL_law_669 : decode cL_law 669 = .ok (.if_icmp .eq 5, 3) := by decide +kernel
theorem dL_law_672 : decode cL_law 672 = .ok (.iconst 0, 1) := by decide +kernel
theorem dL_law_673 : decode cL_law 673 = .ok (.ireturn, 1) := by decide +kernel
theorem dL_law_674 : decode cL_law 674 = .ok (.iload 6, 2) := by decide +kernel
theorem dL_law_676 : decode cL_law 676 = .ok (.ifCond .ne 15, 3) := by decide +kernel
theorem dL_law_679 : decode cL_law 679 = .ok (.aload_n 3, 1) := by decide +kernel
theorem dL_law_680 : decode cL_law 680 = .ok (.iconst 0, 1) := by decide +kernel
theorem dL_law_681 : decode cL_law 681 = .ok (.laload, 1) := by decide +kernel
theorem dL_law_682 : decode cL_law 682 = .ok (.iload 7, 2) := by decide +kernel
theorem dL_law_684 : decode cL_law 684 = .ok (.i2l, 1) := by decide +kernel
theorem dL_law_685 : decode cL_law 685 = .ok (.lcmp, 1) := by decide +kernel
theorem dL_law_686 : decode cL_law 686 = .ok (.ifCond .eq 5, 3) := by decide +kernel
theorem dL_law_689 : decode cL_law 689 = .ok (.iconst 0, 1) := by decide +kernel
theorem dL_law_690 : decode cL_law 690 = .ok (.ireturn, 1) := by decide +kernel
theorem dL_law_691 : decode cL_law 691 = .ok (.goto 1020, 3) := by decide +kernel
theorem dL_law_694 : decode cL_law 694 = .ok (.aload_n 1, 1) := by decide +kernel
theorem dL_law_695 : decode cL_law 695 = .ok (.aload_n 0, 1) := by decide +kernel
theorem dL_law_696 : decode cL_law 696 = .ok (.iload 5, 2) := by decide +kernel
theorem dL_law_698 : decode cL_law 698 = .ok (.iconst 1, 1) := by decide +kernel
theorem dL_law_699 : decode cL_law 699 = .ok (.iadd, 1) := by decide +kernel
theorem dL_law_700 : decode cL_law 700 = .ok (.iaload, 1) := by decide +kernel
theorem dL_law_701 : decode cL_law 701 = .ok (.aload_n 3, 1) := by decide +kernel
theorem dL_law_702 : decode cL_law 702 = .ok (.invokestatic 139, 3) := by decide +kernel
theorem dL_law_705 : decode cL_law 705 = .ok (.istore 6, 2) := by decide +kernel
theorem dL_law_707 : decode cL_law 707 = .ok (.aload_n 2, 1) := by decide +kernel
theorem dL_law_708 : decode cL_law 708 = .ok (.aload_n 0, 1) := by decide +kernel
theorem dL_law_709 : decode cL_law 709 = .ok (.iload 5, 2) := by decide +kernel
theorem dL_law_711 : decode cL_law 711 = .ok (.iconst 1, 1) := by decide +kernel
theorem dL_law_712 : decode cL_law 712 = .ok (.iadd, 1) := by decide +kernel
theorem dL_law_713 : decode cL_law 713 = .ok (.iaload, 1) := by decide +kernel
theorem dL_law_714 : decode cL_law 714 = .ok (.invokevirtual 141, 3) := by decide +kernel
theorem dL_law_717 : decode cL_law 717 = .ok (.istore 7, 2) := by decide +kernel
theorem dL_law_719 : decode cL_law 719 = .ok (.aload_n 2, 1) := by decide +kernel
theorem dL_law_720 : decode cL_law 720 = .ok (.invokevirtual 106, 3) := by decide +kernel
theorem dL_law_723 : decode cL_law 723 = .ok (.iload 6, 2) := by decide +kernel
theorem dL_law_725 : decode cL_law 725 = .ok (.if_icmp .eq 5, 3) := by decide +kernel
theorem dL_law_728 : decode cL_law 728 = .ok (.iconst 0, 1) := by decide +kernel
theorem dL_law_729 : decode cL_law 729 = .ok (.ireturn, 1) := by decide +kernel
theorem dL_law_730 : decode cL_law 730 = .ok (.iload 6, 2) := by decide +kernel
theorem dL_law_732 : decode cL_law 732 = .ok (.ifCond .ne 15, 3) := by decide +kernel
theorem dL_law_735 : decode cL_law 735 = .ok (.aload_n 3, 1) := by decide +kernel
theorem dL_law_736 : decode cL_law 736 = .ok (.iconst 0, 1) := by decide +kernel
theorem dL_law_737 : decode cL_law 737 = .ok (.laload, 1) := by decide +kernel
theorem dL_law_738 : decode cL_law 738 = .ok (.iload 7, 2) := by decide +kernel
theorem dL_law_740 : decode cL_law 740 = .ok (.i2l, 1) := by decide +kernel
theorem dL_law_741 : decode cL_law 741 = .ok (.lcmp, 1) := by decide +kernel
theorem dL_law_742 : decode cL_law 742 = .ok (.ifCond .eq 5, 3) := by decide +kernel
theorem dL_law_745 : decode cL_law 745 = .ok (.iconst 0, 1) := by decide +kernel
theorem dL_law_746 : decode cL_law 746 = .ok (.ireturn, 1) := by decide +kernel
theorem dL_law_747 : decode cL_law 747 = .ok (.goto 964, 3) := by decide +kernel
theorem dL_law_750 : decode cL_law 750 = .ok (.aload_n 1, 1) := by decide +kernel
theorem dL_law_751 : decode cL_law 751 = .ok (.aload_n 0, 1) := by decide +kernel
theorem dL_law_752 : decode cL_law 752 = .ok (.iload 5, 2) := by decide +kernel
theorem dL_law_754 : decode cL_law 754 = .ok (.iconst 1, 1) := by decide +kernel
theorem dL_law_755 : decode cL_law 755 = .ok (.iadd, 1) := by decide +kernel
theorem dL_law_756 : decode cL_law 756 = .ok (.iaload, 1) := by decide +kernel
theorem dL_law_757 : decode cL_law 757 = .ok (.aload_n 0, 1) := by decide +kernel
theorem dL_law_758 : decode cL_law 758 = .ok (.iload 5, 2) := by decide +kernel
theorem dL_law_760 : decode cL_law 760 = .ok (.iconst 2, 1) := by decide +kernel
theorem dL_law_761 : decode cL_law 761 = .ok (.iadd, 1) := by decide +kernel
theorem dL_law_762 : decode cL_law 762 = .ok (.iaload, 1) := by decide +kernel
theorem dL_law_763 : decode cL_law 763 = .ok (.aload_n 3, 1) := by decide +kernel
theorem dL_law_764 : decode cL_law 764 = .ok (.invokestatic 142, 3) := by decide +kernel
theorem dL_law_767 : decode cL_law 767 = .ok (.istore 6, 2) := by decide +kernel
theorem dL_law_769 : decode cL_law 769 = .ok (.aload_n 2, 1) := by decide +kernel
theorem dL_law_770 : decode cL_law 770 = .ok (.aload_n 0, 1) := by decide +kernel
theorem dL_law_771 : decode cL_law 771 = .ok (.iload 5, 2) := by decide +kernel
theorem dL_law_773 : decode cL_law 773 = .ok (.iconst 1, 1) := by decide +kernel
theorem dL_law_774 : decode cL_law 774 = .ok (.iadd, 1) := by decide +kernel
theorem dL_law_775 : decode cL_law 775 = .ok (.iaload, 1) := by decide +kernel
theorem dL_law_776 : decode cL_law 776 = .ok (.aload_n 0, 1) := by decide +kernel
theorem dL_law_777 : decode cL_law 777 = .ok (.iload 5, 2) := by decide +kernel
theorem dL_law_779 : decode cL_law 779 = .ok (.iconst 2, 1) := by decide +kernel
theorem dL_law_780 : decode cL_law 780 = .ok (.iadd, 1) := by decide +kernel
theorem dL_law_781 : decode cL_law 781 = .ok (.iaload, 1) := by decide +kernel
theorem dL_law_782 : decode cL_law 782 = .ok (.invokevirtual 144, 3) := by decide +kernel
theorem dL_law_785 : decode cL_law 785 = .ok (.istore 7, 2) := by decide +kernel
theorem dL_law_787 : decode cL_law 787 = .ok (.aload_n 2, 1) := by decide +kernel
theorem dL_law_788 : decode cL_law 788 = .ok (.invokevirtual 106, 3) := by decide +kernel
theorem dL_law_791 : decode cL_law 791 = .ok (.iload 6, 2) := by decide +kernel
theorem dL_law_793 : decode cL_law 793 = .ok (.if_icmp .eq 5, 3) := by decide +kernel
theorem dL_law_796 : decode cL_law 796 = .ok (.iconst 0, 1) := by decide +kernel
theorem dL_law_797 : decode cL_law 797 = .ok (.ireturn, 1) := by decide +kernel
theorem dL_law_798 : decode cL_law 798 = .ok (.iload 6, 2) := by decide +kernel
theorem dL_law_800 : decode cL_law 800 = .ok (.ifCond .ne 15, 3) := by decide +kernel
theorem dL_law_803 : decode cL_law 803 = .ok (.aload_n 3, 1) := by decide +kernel
theorem dL_law_804 : decode cL_law 804 = .ok (.iconst 0, 1) := by decide +kernel
theorem dL_law_805 : decode cL_law 805 = .ok (.laload, 1) := by decide +kernel
theorem dL_law_806 : decode cL_law 806 = .ok (.iload 7, 2) := by decide +kernel
theorem dL_law_808 : decode cL_law 808 = .ok (.i2l, 1) := by decide +kernel
theorem dL_law_809 : decode cL_law 809 = .ok (.lcmp, 1) := by decide +kernel
theorem dL_law_810 : decode cL_law 810 = .ok (.ifCond .eq 5, 3) := by decide +kernel
theorem dL_law_813 : decode cL_law 813 = .ok (.iconst 0, 1) := by decide +kernel
theorem dL_law_814 : decode cL_law 814 = .ok (.ireturn, 1) := by decide +kernel
theorem dL_law_815 : decode cL_law 815 = .ok (.goto 896, 3) := by decide +kernel
theorem dL_law_818 : decode cL_law 818 = .ok (.aload_n 1, 1) := by decide +kernel
theorem dL_law_819 : decode cL_law 819 = .ok (.aload_n 0, 1) := by decide +kernel
theorem dL_law_820 : decode cL_law 820 = .ok (.iload 5, 2) := by decide +kernel
theorem dL_law_822 : decode cL_law 822 = .ok (.iconst 1, 1) := by decide +kernel
theorem dL_law_823 : decode cL_law 823 = .ok (.iadd, 1) := by decide +kernel
theorem dL_law_824 : decode cL_law 824 = .ok (.iaload, 1) := by decide +kernel
theorem dL_law_825 : decode cL_law 825 = .ok (.aload_n 0, 1) := by decide +kernel
theorem dL_law_826 : decode cL_law 826 = .ok (.iload 5, 2) := by decide +kernel
theorem dL_law_828 : decode cL_law 828 = .ok (.iconst 2, 1) := by decide +kernel
theorem dL_law_829 : decode cL_law 829 = .ok (.iadd, 1) := by decide +kernel
theorem dL_law_830 : decode cL_law 830 = .ok (.iaload, 1) := by decide +kernel
theorem dL_law_831 : decode cL_law 831 = .ok (.aload_n 0, 1) := by decide +kernel
theorem dL_law_832 : decode cL_law 832 = .ok (.iload 5, 2) := by decide +kernel
theorem dL_law_834 : decode cL_law 834 = .ok (.iconst 3, 1) := by decide +kernel
theorem dL_law_835 : decode cL_law 835 = .ok (.iadd, 1) := by decide +kernel
theorem dL_law_836 : decode cL_law 836 = .ok (.iaload, 1) := by decide +kernel
theorem dL_law_837 : decode cL_law 837 = .ok (.aload_n 3, 1) := by decide +kernel
theorem dL_law_838 : decode cL_law 838 = .ok (.invokestatic 145, 3) := by decide +kernel
theorem dL_law_841 : decode cL_law 841 = .ok (.istore 6, 2) := by decide +kernel
theorem dL_law_843 : decode cL_law 843 = .ok (.aload_n 2, 1) := by decide +kernel
theorem dL_law_844 : decode cL_law 844 = .ok (.aload_n 0, 1) := by decide +kernel
theorem dL_law_845 : decode cL_law 845 = .ok (.iload 5, 2) := by decide +kernel
theorem dL_law_847 : decode cL_law 847 = .ok (.iconst 1, 1) := by decide +kernel
theorem dL_law_848 : decode cL_law 848 = .ok (.iadd, 1) := by decide +kernel
theorem dL_law_849 : decode cL_law 849 = .ok (.iaload, 1) := by decide +kernel
theorem dL_law_850 : decode cL_law 850 = .ok (.aload_n 0, 1) := by decide +kernel
theorem dL_law_851 : decode cL_law 851 = .ok (.iload 5, 2) := by decide +kernel
theorem dL_law_853 : decode cL_law 853 = .ok (.iconst 2, 1) := by decide +kernel
theorem dL_law_854 : decode cL_law 854 = .ok (.iadd, 1) := by decide +kernel
theorem dL_law_855 : decode cL_law 855 = .ok (.iaload, 1) := by decide +kernel
theorem dL_law_856 : decode cL_law 856 = .ok (.aload_n 0, 1) := by decide +kernel
theorem dL_law_857 : decode cL_law 857 = .ok (.iload 5, 2) := by decide +kernel
theorem dL_law_859 : decode cL_law 859 = .ok (.iconst 3, 1) := by decide +kernel
theorem dL_law_860 : decode cL_law 860 = .ok (.iadd, 1) := by decide +kernel
theorem dL_law_861 : decode cL_law 861 = .ok (.iaload, 1) := by decide +kernel
theorem dL_law_862 : decode cL_law 862 = .ok (.invokevirtual 147, 3) := by decide +kernel
theorem dL_law_865 : decode cL_law 865 = .ok (.istore 7, 2) := by decide +kernel
theorem dL_law_867 : decode cL_law 867 = .ok (.aload_n 2, 1) := by decide +kernel
theorem dL_law_868 : decode cL_law 868 = .ok (.invokevirtual 106, 3) := by decide +kernel
theorem dL_law_871 : decode cL_law 871 = .ok (.iload 6, 2) := by decide +kernel
theorem dL_law_873 : decode cL_law 873 = .ok (.if_icmp .eq 5, 3) := by decide +kernel
theorem dL_law_876 : decode cL_law 876 = .ok (.iconst 0, 1) := by decide +kernel
theorem dL_law_877 : decode cL_law 877 = .ok (.ireturn, 1) := by decide +kernel
theorem dL_law_878 : decode cL_law 878 = .ok (.iload 6, 2) := by decide +kernel
theorem dL_law_880 : decode cL_law 880 = .ok (.ifCond .ne 15, 3) := by decide +kernel
theorem dL_law_883 : decode cL_law 883 = .ok (.aload_n 3, 1) := by decide +kernel
theorem dL_law_884 : decode cL_law 884 = .ok (.iconst 0, 1) := by decide +kernel
theorem dL_law_885 : decode cL_law 885 = .ok (.laload, 1) := by decide +kernel
theorem dL_law_886 : decode cL_law 886 = .ok (.iload 7, 2) := by decide +kernel
theorem dL_law_888 : decode cL_law 888 = .ok (.i2l, 1) := by decide +kernel
theorem dL_law_889 : decode cL_law 889 = .ok (.lcmp, 1) := by decide +kernel
theorem dL_law_890 : decode cL_law 890 = .ok (.ifCond .eq 5, 3) := by decide +kernel
theorem dL_law_893 : decode cL_law 893 = .ok (.iconst 0, 1) := by decide +kernel
theorem dL_law_894 : decode cL_law 894 = .ok (.ireturn, 1) := by decide +kernel
theorem dL_law_895 : decode cL_law 895 = .ok (.goto 816, 3) := by decide +kernel
theorem dL_law_898 : decode cL_law 898 = .ok (.aload_n 1, 1) := by decide +kernel
theorem dL_law_899 : decode cL_law 899 = .ok (.aload_n 0, 1) := by decide +kernel
theorem dL_law_900 : decode cL_law 900 = .ok (.iload 5, 2) := by decide +kernel
theorem dL_law_902 : decode cL_law 902 = .ok (.iconst 1, 1) := by decide +kernel
theorem dL_law_903 : decode cL_law 903 = .ok (.iadd, 1) := by decide +kernel
theorem dL_law_904 : decode cL_law 904 = .ok (.iaload, 1) := by decide +kernel
theorem dL_law_905 : decode cL_law 905 = .ok (.aload_n 3, 1) := by decide +kernel
theorem dL_law_906 : decode cL_law 906 = .ok (.invokestatic 148, 3) := by decide +kernel
theorem dL_law_909 : decode cL_law 909 = .ok (.istore 6, 2) := by decide +kernel
theorem dL_law_911 : decode cL_law 911 = .ok (.aload_n 2, 1) := by decide +kernel
theorem dL_law_912 : decode cL_law 912 = .ok (.aload_n 0, 1) := by decide +kernel
theorem dL_law_913 : decode cL_law 913 = .ok (.iload 5, 2) := by decide +kernel
theorem dL_law_915 : decode cL_law 915 = .ok (.iconst 1, 1) := by decide +kernel
theorem dL_law_916 : decode cL_law 916 = .ok (.iadd, 1) := by decide +kernel
theorem dL_law_917 : decode cL_law 917 = .ok (.iaload, 1) := by decide +kernel
theorem dL_law_918 : decode cL_law 918 = .ok (.invokevirtual 150, 3) := by decide +kernel
theorem dL_law_921 : decode cL_law 921 = .ok (.istore 7, 2) := by decide +kernel
theorem dL_law_923 : decode cL_law 923 = .ok (.aload_n 2, 1) := by decide +kernel
theorem dL_law_924 : decode cL_law 924 = .ok (.invokevirtual 106, 3) := by decide +kernel
theorem dL_law_927 : decode cL_law 927 = .ok (.iload 6, 2) := by decide +kernel
theorem dL_law_929 : decode cL_law 929 = .ok (.if_icmp .eq 5, 3) := by decide +kernel
theorem dL_law_932 : decode cL_law 932 = .ok (.iconst 0, 1) := by decide +kernel
theorem dL_law_933 : decode cL_law 933 = .ok (.ireturn, 1) := by decide +kernel
theorem dL_law_934 : decode cL_law 934 = .ok (.iload 6, 2) := by decide +kernel
theorem dL_law_936 : decode cL_law 936 = .ok (.ifCond .ne 15, 3) := by decide +kernel
theorem dL_law_939 : decode cL_law 939 = .ok (.aload_n 3, 1) := by decide +kernel
theorem dL_law_940 : decode cL_law 940 = .ok (.iconst 0, 1) := by decide +kernel
theorem dL_law_941 : decode cL_law 941 = .ok (.laload, 1) := by decide +kernel
theorem dL_law_942 : decode cL_law 942 = .ok (.iload 7, 2) := by decide +kernel
theorem dL_law_944 : decode cL_law 944 = .ok (.i2l, 1) := by decide +kernel
theorem dL_law_945 : decode cL_law 945 = .ok (.lcmp, 1) := by decide +kernel
theorem dL_law_946 : decode cL_law 946 = .ok (.ifCond .eq 5, 3) := by decide +kernel
theorem dL_law_949 : decode cL_law 949 = .ok (.iconst 0, 1) := by decide +kernel
theorem dL_law_950 : decode cL_law 950 = .ok (.ireturn, 1) := by decide +kernel
theorem dL_law_951 : decode cL_law 951 = .ok (.goto 760, 3) := by decide +kernel
theorem dL_law_954 : decode cL_law 954 = .ok (.aload_n 1, 1) := by decide +kernel
theorem dL_law_955 : decode cL_law 955 = .ok (.aload_n 0, 1) := by decide +kernel
theorem dL_law_956 : decode cL_law 956 = .ok (.iload 5, 2) := by decide +kernel
theorem dL_law_958 : decode cL_law 958 = .ok (.iconst 1, 1) := by decide +kernel
theorem dL_law_959 : decode cL_law 959 = .ok (.iadd, 1) := by decide +kernel
theorem dL_law_960 : decode cL_law 960 = .ok (.iaload, 1) := by decide +kernel
theorem dL_law_961 : decode cL_law 961 = .ok (.aload_n 0, 1) := by decide +kernel
theorem dL_law_962 : decode cL_law 962 = .ok (.iload 5, 2) := by decide +kernel
theorem dL_law_964 : decode cL_law 964 = .ok (.iconst 2, 1) := by decide +kernel
theorem dL_law_965 : decode cL_law 965 = .ok (.iadd, 1) := by decide +kernel
theorem dL_law_966 : decode cL_law 966 = .ok (.iaload, 1) := by decide +kernel
theorem dL_law_967 : decode cL_law 967 = .ok (.aload_n 0, 1) := by decide +kernel
theorem dL_law_968 : decode cL_law 968 = .ok (.iload 5, 2) := by decide +kernel
theorem dL_law_970 : decode cL_law 970 = .ok (.iconst 3, 1) := by decide +kernel
theorem dL_law_971 : decode cL_law 971 = .ok (.iadd, 1) := by decide +kernel
theorem dL_law_972 : decode cL_law 972 = .ok (.iaload, 1) := by decide +kernel
theorem dL_law_973 : decode cL_law 973 = .ok (.aload_n 3, 1) := by decide +kernel
theorem dL_law_974 : decode cL_law 974 = .ok (.invokestatic 151, 3) := by decide +kernel
theorem dL_law_977 : decode cL_law 977 = .ok (.istore 6, 2) := by decide +kernel
theorem dL_law_979 : decode cL_law 979 = .ok (.aload_n 2, 1) := by decide +kernel
theorem dL_law_980 : decode cL_law 980 = .ok (.aload_n 0, 1) := by decide +kernel
theorem dL_law_981 : decode cL_law 981 = .ok (.iload 5, 2) := by decide +kernel
theorem dL_law_983 : decode cL_law 983 = .ok (.iconst 1, 1) := by decide +kernel
theorem dL_law_984 : decode cL_law 984 = .ok (.iadd, 1) := by decide +kernel
theorem dL_law_985 : decode cL_law 985 = .ok (.iaload, 1) := by decide +kernel
theorem dL_law_986 : decode cL_law 986 = .ok (.aload_n 0, 1) := by decide +kernel
theorem dL_law_987 : decode cL_law 987 = .ok (.iload 5, 2) := by decide +kernel
theorem dL_law_989 : decode cL_law 989 = .ok (.iconst 2, 1) := by decide +kernel
theorem dL_law_990 : decode cL_law 990 = .ok (.iadd, 1) := by decide +kernel
theorem dL_law_991 : decode cL_law 991 = .ok (.iaload, 1) := by decide +kernel
theorem dL_law_992 : decode cL_law 992 = .ok (.aload_n 0, 1) := by decide +kernel
theorem dL_law_993 : decode cL_law 993 = .ok (.iload 5, 2) := by decide +kernel
theorem dL_law_995 : decode cL_law 995 = .ok (.iconst 3, 1) := by decide +kernel
theorem dL_law_996 : decode cL_law 996 = .ok (.iadd, 1) := by decide +kernel
theorem dL_law_997 : decode cL_law 997 = .ok (.iaload, 1) := by decide +kernel
theorem dL_law_998 : decode cL_law 998 = .ok (.invokevirtual 153, 3) := by decide +kernel
theorem dL_law_1001 : decode cL_law 1001 = .ok (.istore 7, 2) := by decide +kernel
theorem dL_law_1003 : decode cL_law 1003 = .ok (.aload_n 2, 1) := by decide +kernel
theorem dL_law_1004 : decode cL_law 1004 = .ok (.invokevirtual 106, 3) := by decide +kernel
theorem dL_law_1007 : decode cL_law 1007 = .ok (.iload 6, 2) := by decide +kernel
theorem dL_law_1009 : decode cL_law 1009 = .ok (.if_icmp .eq 5, 3) := by decide +kernel
theorem dL_law_1012 : decode cL_law 1012 = .ok (.iconst 0, 1) := by decide +kernel
theorem dL_law_1013 : decode cL_law 1013 = .ok (.ireturn, 1) := by decide +kernel
theorem dL_law_1014 : decode cL_law 1014 = .ok (.iload 6, 2) := by decide +kernel
theorem dL_law_1016 : decode cL_law 1016 = .ok (.ifCond .ne 15, 3) := by decide +kernel
theorem dL_law_1019 : decode cL_law 1019 = .ok (.aload_n 3, 1) := by decide +kernel
theorem dL_law_1020 : decode cL_law 1020 = .ok (.iconst 0, 1) := by decide +kernel
theorem dL_law_1021 : decode cL_law 1021 = .ok (.laload, 1) := by decide +kernel
theorem dL_law_1022 : decode cL_law 1022 = .ok (.iload 7, 2) := by decide +kernel
theorem dL_law_1024 : decode cL_law 1024 = .ok (.i2l, 1) := by decide +kernel
theorem dL_law_1025 : decode cL_law 1025 = .ok (.lcmp, 1) := by decide +kernel
theorem dL_law_1026 : decode cL_law 1026 = .ok (.ifCond .eq 5, 3) := by decide +kernel
theorem dL_law_1029 : decode cL_law 1029 = .ok (.iconst 0, 1) := by decide +kernel
theorem dL_law_1030 : decode cL_law 1030 = .ok (.ireturn, 1) := by decide +kernel
theorem dL_law_1031 : decode cL_law 1031 = .ok (.goto 680, 3) := by decide +kernel
theorem dL_law_1034 : decode cL_law 1034 = .ok (.aload_n 1, 1) := by decide +kernel
theorem dL_law_1035 : decode cL_law 1035 = .ok (.aload_n 0, 1) := by decide +kernel
theorem dL_law_1036 : decode cL_law 1036 = .ok (.iload 5, 2) := by decide +kernel
theorem dL_law_1038 : decode cL_law 1038 = .ok (.iconst 1, 1) := by decide +kernel
theorem dL_law_1039 : decode cL_law 1039 = .ok (.iadd, 1) := by decide +kernel
theorem dL_law_1040 : decode cL_law 1040 = .ok (.iaload, 1) := by decide +kernel
theorem dL_law_1041 : decode cL_law 1041 = .ok (.aload_n 0, 1) := by decide +kernel
theorem dL_law_1042 : decode cL_law 1042 = .ok (.iload 5, 2) := by decide +kernel
theorem dL_law_1044 : decode cL_law 1044 = .ok (.iconst 2, 1) := by decide +kernel
theorem dL_law_1045 : decode cL_law 1045 = .ok (.iadd, 1) := by decide +kernel
theorem dL_law_1046 : decode cL_law 1046 = .ok (.iaload, 1) := by decide +kernel
theorem dL_law_1047 : decode cL_law 1047 = .ok (.aload_n 3, 1) := by decide +kernel
theorem dL_law_1048 : decode cL_law 1048 = .ok (.invokestatic 154, 3) := by decide +kernel
theorem dL_law_1051 : decode cL_law 1051 = .ok (.istore 6, 2) := by decide +kernel
theorem dL_law_1053 : decode cL_law 1053 = .ok (.aload_n 2, 1) := by decide +kernel
theorem dL_law_1054 : decode cL_law 1054 = .ok (.aload_n 0, 1) := by decide +kernel
theorem dL_law_1055 : decode cL_law 1055 = .ok (.iload 5, 2) := by decide +kernel
theorem dL_law_1057 : decode cL_law 1057 = .ok (.iconst 1, 1) := by decide +kernel
theorem dL_law_1058 : decode cL_law 1058 = .ok (.iadd, 1) := by decide +kernel
theorem dL_law_1059 : decode cL_law 1059 = .ok (.iaload, 1) := by decide +kernel
theorem dL_law_1060 : decode cL_law 1060 = .ok (.aload_n 0, 1) := by decide +kernel
theorem dL_law_1061 : decode cL_law 1061 = .ok (.iload 5, 2) := by decide +kernel
theorem dL_law_1063 : decode cL_law 1063 = .ok (.iconst 2, 1) := by decide +kernel
theorem dL_law_1064 : decode cL_law 1064 = .ok (.iadd, 1) := by decide +kernel
theorem dL_law_1065 : decode cL_law 1065 = .ok (.iaload, 1) := by decide +kernel
theorem dL_law_1066 : decode cL_law 1066 = .ok (.invokevirtual 156, 3) := by decide +kernel
theorem dL_law_1069 : decode cL_law 1069 = .ok (.istore 7, 2) := by decide +kernel
theorem dL_law_1071 : decode cL_law 1071 = .ok (.aload_n 2, 1) := by decide +kernel
theorem dL_law_1072 : decode cL_law 1072 = .ok (.invokevirtual 106, 3) := by decide +kernel
theorem dL_law_1075 : decode cL_law 1075 = .ok (.iload 6, 2) := by decide +kernel
theorem dL_law_1077 : decode cL_law 1077 = .ok (.if_icmp .eq 5, 3) := by decide +kernel
theorem dL_law_1080 : decode cL_law 1080 = .ok (.iconst 0, 1) := by decide +kernel
theorem dL_law_1081 : decode cL_law 1081 = .ok (.ireturn, 1) := by decide +kernel
theorem dL_law_1082 : decode cL_law 1082 = .ok (.iload 6, 2) := by decide +kernel
theorem dL_law_1084 : decode cL_law 1084 = .ok (.ifCond .ne 15, 3) := by decide +kernel
theorem dL_law_1087 : decode cL_law 1087 = .ok (.aload_n 3, 1) := by decide +kernel
theorem dL_law_1088 : decode cL_law 1088 = .ok (.iconst 0, 1) := by decide +kernel
theorem dL_law_1089 : decode cL_law 1089 = .ok (.laload, 1) := by decide +kernel
theorem dL_law_1090 : decode cL_law 1090 = .ok (.iload 7, 2) := by decide +kernel
theorem dL_law_1092 : decode cL_law 1092 = .ok (.i2l, 1) := by decide +kernel
theorem dL_law_1093 : decode cL_law 1093 = .ok (.lcmp, 1) := by decide +kernel
theorem dL_law_1094 : decode cL_law 1094 = .ok (.ifCond .eq 5, 3) := by decide +kernel
theorem dL_law_1097 : decode cL_law 1097 = .ok (.iconst 0, 1) := by decide +kernel
theorem dL_law_1098 : decode cL_law 1098 = .ok (.ireturn, 1) := by decide +kernel
theorem dL_law_1099 : decode cL_law 1099 = .ok (.goto 612, 3) := by decide +kernel
theorem dL_law_1102 : decode cL_law 1102 = .ok (.aload_n 1, 1) := by decide +kernel
theorem dL_law_1103 : decode cL_law 1103 = .ok (.aload_n 0, 1) := by decide +kernel
theorem dL_law_1104 : decode cL_law 1104 = .ok (.iload 5, 2) := by decide +kernel
theorem dL_law_1106 : decode cL_law 1106 = .ok (.iconst 1, 1) := by decide +kernel
theorem dL_law_1107 : decode cL_law 1107 = .ok (.iadd, 1) := by decide +kernel
theorem dL_law_1108 : decode cL_law 1108 = .ok (.iaload, 1) := by decide +kernel
theorem dL_law_1109 : decode cL_law 1109 = .ok (.aload_n 3, 1) := by decide +kernel
theorem dL_law_1110 : decode cL_law 1110 = .ok (.invokestatic 157, 3) := by decide +kernel
theorem dL_law_1113 : decode cL_law 1113 = .ok (.istore 6, 2) := by decide +kernel
theorem dL_law_1115 : decode cL_law 1115 = .ok (.aload_n 2, 1) := by decide +kernel
theorem dL_law_1116 : decode cL_law 1116 = .ok (.aload_n 0, 1) := by decide +kernel
theorem dL_law_1117 : decode cL_law 1117 = .ok (.iload 5, 2) := by decide +kernel
theorem dL_law_1119 : decode cL_law 1119 = .ok (.iconst 1, 1) := by decide +kernel
theorem dL_law_1120 : decode cL_law 1120 = .ok (.iadd, 1) := by decide +kernel
theorem dL_law_1121 : decode cL_law 1121 = .ok (.iaload, 1) := by decide +kernel
theorem dL_law_1122 : decode cL_law 1122 = .ok (.invokevirtual 159, 3) := by decide +kernel
theorem dL_law_1125 : decode cL_law 1125 = .ok (.istore 7, 2) := by decide +kernel
theorem dL_law_1127 : decode cL_law 1127 = .ok (.aload_n 2, 1) := by decide +kernel
theorem dL_law_1128 : decode cL_law 1128 = .ok (.invokevirtual 106, 3) := by decide +kernel
theorem dL_law_1131 : decode cL_law 1131 = .ok (.iload 6, 2) := by decide +kernel
theorem dL_law_1133 : decode cL_law 1133 = .ok (.if_icmp .eq 5, 3) := by decide +kernel
theorem dL_law_1136 : decode cL_law 1136 = .ok (.iconst 0, 1) := by decide +kernel
theorem dL_law_1137 : decode cL_law 1137 = .ok (.ireturn, 1) := by decide +kernel
theorem dL_law_1138 : decode cL_law 1138 = .ok (.iload 6, 2) := by decide +kernel
theorem dL_law_1140 : decode cL_law 1140 = .ok (.ifCond .ne 15, 3) := by decide +kernel
theorem dL_law_1143 : decode cL_law 1143 = .ok (.aload_n 3, 1) := by decide +kernel
theorem dL_law_1144 : decode cL_law 1144 = .ok (.iconst 0, 1) := by decide +kernel
theorem dL_law_1145 : decode cL_law 1145 = .ok (.laload, 1) := by decide +kernel
theorem dL_law_1146 : decode cL_law 1146 = .ok (.iload 7, 2) := by decide +kernel
theorem dL_law_1148 : decode cL_law 1148 = .ok (.i2l, 1) := by decide +kernel
theorem dL_law_1149 : decode cL_law 1149 = .ok (.lcmp, 1) := by decide +kernel
theorem dL_law_1150 : decode cL_law 1150 = .ok (.ifCond .eq 5, 3) := by decide +kernel
theorem dL_law_1153 : decode cL_law 1153 = .ok (.iconst 0, 1) := by decide +kernel
theorem dL_law_1154 : decode cL_law 1154 = .ok (.ireturn, 1) := by decide +kernel
theorem dL_law_1155 : decode cL_law 1155 = .ok (.goto 556, 3) := by decide +kernel
theorem dL_law_1158 : decode cL_law 1158 = .ok (.aload_n 1, 1) := by decide +kernel
theorem dL_law_1159 : decode cL_law 1159 = .ok (.aload_n 0, 1) := by decide +kernel
theorem dL_law_1160 : decode cL_law 1160 = .ok (.iload 5, 2) := by decide +kernel
theorem dL_law_1162 : decode cL_law 1162 = .ok (.iconst 1, 1) := by decide +kernel
theorem dL_law_1163 : decode cL_law 1163 = .ok (.iadd, 1) := by decide +kernel
theorem dL_law_1164 : decode cL_law 1164 = .ok (.iaload, 1) := by decide +kernel
theorem dL_law_1165 : decode cL_law 1165 = .ok (.aload_n 3, 1) := by decide +kernel
theorem dL_law_1166 : decode cL_law 1166 = .ok (.invokestatic 160, 3) := by decide +kernel
theorem dL_law_1169 : decode cL_law 1169 = .ok (.istore 6, 2) := by decide +kernel
theorem dL_law_1171 : decode cL_law 1171 = .ok (.aload_n 2, 1) := by decide +kernel
theorem dL_law_1172 : decode cL_law 1172 = .ok (.aload_n 0, 1) := by decide +kernel
theorem dL_law_1173 : decode cL_law 1173 = .ok (.iload 5, 2) := by decide +kernel
theorem dL_law_1175 : decode cL_law 1175 = .ok (.iconst 1, 1) := by decide +kernel
theorem dL_law_1176 : decode cL_law 1176 = .ok (.iadd, 1) := by decide +kernel
theorem dL_law_1177 : decode cL_law 1177 = .ok (.iaload, 1) := by decide +kernel
theorem dL_law_1178 : decode cL_law 1178 = .ok (.invokevirtual 162, 3) := by decide +kernel
theorem dL_law_1181 : decode cL_law 1181 = .ok (.istore 7, 2) := by decide +kernel
theorem dL_law_1183 : decode cL_law 1183 = .ok (.aload_n 2, 1) := by decide +kernel
theorem dL_law_1184 : decode cL_law 1184 = .ok (.invokevirtual 106, 3) := by decide +kernel
theorem dL_law_1187 : decode cL_law 1187 = .ok (.iload 6, 2) := by decide +kernel
theorem dL_law_1189 : decode cL_law 1189 = .ok (.if_icmp .eq 5, 3) := by decide +kernel
theorem dL_law_1192 : decode cL_law 1192 = .ok (.iconst 0, 1) := by decide +kernel
theorem dL_law_1193 : decode cL_law 1193 = .ok (.ireturn, 1) := by decide +kernel
theorem dL_law_1194 : decode cL_law 1194 = .ok (.iload 6, 2) := by decide +kernel
theorem dL_law_1196 : decode cL_law 1196 = .ok (.ifCond .ne 15, 3) := by decide +kernel
theorem dL_law_1199 : decode cL_law 1199 = .ok (.aload_n 3, 1) := by decide +kernel
theorem dL_law_1200 : decode cL_law 1200 = .ok (.iconst 0, 1) := by decide +kernel
theorem dL_law_1201 : decode cL_law 1201 = .ok (.laload, 1) := by decide +kernel
theorem dL_law_1202 : decode cL_law 1202 = .ok (.iload 7, 2) := by decide +kernel
theorem dL_law_1204 : decode cL_law 1204 = .ok (.i2l, 1) := by decide +kernel
theorem dL_law_1205 : decode cL_law 1205 = .ok (.lcmp, 1) := by decide +kernel
theorem dL_law_1206 : decode cL_law 1206 = .ok (.ifCond .eq 5, 3) := by decide +kernel
theorem dL_law_1209 : decode cL_law 1209 = .ok (.iconst 0, 1) := by decide +kernel
theorem dL_law_1210 : decode cL_law 1210 = .ok (.ireturn, 1) := by decide +kernel
theorem dL_law_1211 : decode cL_law 1211 = .ok (.goto 500, 3) := by decide +kernel
theorem dL_law_1214 : decode cL_law 1214 = .ok (.aload_n 1, 1) := by decide +kernel
theorem dL_law_1215 : decode cL_law 1215 = .ok (.aload_n 0, 1) := by decide +kernel
theorem dL_law_1216 : decode cL_law 1216 = .ok (.iload 5, 2) := by decide +kernel
theorem dL_law_1218 : decode cL_law 1218 = .ok (.iconst 1, 1) := by decide +kernel
theorem dL_law_1219 : decode cL_law 1219 = .ok (.iadd, 1) := by decide +kernel
theorem dL_law_1220 : decode cL_law 1220 = .ok (.iaload, 1) := by decide +kernel
theorem dL_law_1221 : decode cL_law 1221 = .ok (.aload_n 3, 1) := by decide +kernel
theorem dL_law_1222 : decode cL_law 1222 = .ok (.invokestatic 163, 3) := by decide +kernel
theorem dL_law_1225 : decode cL_law 1225 = .ok (.istore 6, 2) := by decide +kernel
theorem dL_law_1227 : decode cL_law 1227 = .ok (.aload_n 2, 1) := by decide +kernel
theorem dL_law_1228 : decode cL_law 1228 = .ok (.aload_n 0, 1) := by decide +kernel
theorem dL_law_1229 : decode cL_law 1229 = .ok (.iload 5, 2) := by decide +kernel
theorem dL_law_1231 : decode cL_law 1231 = .ok (.iconst 1, 1) := by decide +kernel
theorem dL_law_1232 : decode cL_law 1232 = .ok (.iadd, 1) := by decide +kernel
theorem dL_law_1233 : decode cL_law 1233 = .ok (.iaload, 1) := by decide +kernel
theorem dL_law_1234 : decode cL_law 1234 = .ok (.invokevirtual 165, 3) := by decide +kernel
theorem dL_law_1237 : decode cL_law 1237 = .ok (.istore 7, 2) := by decide +kernel
theorem dL_law_1239 : decode cL_law 1239 = .ok (.aload_n 2, 1) := by decide +kernel
theorem dL_law_1240 : decode cL_law 1240 = .ok (.invokevirtual 106, 3) := by decide +kernel
theorem dL_law_1243 : decode cL_law 1243 = .ok (.iload 6, 2) := by decide +kernel
theorem dL_law_1245 : decode cL_law 1245 = .ok (.if_icmp .eq 5, 3) := by decide +kernel
theorem dL_law_1248 : decode cL_law 1248 = .ok (.iconst 0, 1) := by decide +kernel
theorem dL_law_1249 : decode cL_law 1249 = .ok (.ireturn, 1) := by decide +kernel
theorem dL_law_1250 : decode cL_law 1250 = .ok (.iload 6, 2) := by decide +kernel
theorem dL_law_1252 : decode cL_law 1252 = .ok (.ifCond .ne 15, 3) := by decide +kernel
theorem dL_law_1255 : decode cL_law 1255 = .ok (.aload_n 3, 1) := by decide +kernel
theorem dL_law_1256 : decode cL_law 1256 = .ok (.iconst 0, 1) := by decide +kernel
theorem dL_law_1257 : decode cL_law 1257 = .ok (.laload, 1) := by decide +kernel
theorem dL_law_1258 : decode cL_law 1258 = .ok (.iload 7, 2) := by decide +kernel
theorem dL_law_1260 : decode cL_law 1260 = .ok (.i2l, 1) := by decide +kernel
theorem dL_law_1261 : decode cL_law 1261 = .ok (.lcmp, 1) := by decide +kernel
theorem dL_law_1262 : decode cL_law 1262 = .ok (.ifCond .eq 5, 3) := by decide +kernel
theorem dL_law_1265 : decode cL_law 1265 = .ok (.iconst 0, 1) := by decide +kernel
theorem dL_law_1266 : decode cL_law 1266 = .ok (.ireturn, 1) := by decide +kernel
theorem dL_law_1267 : decode cL_law 1267 = .ok (.goto 444, 3) := by decide +kernel
theorem dL_law_1270 : decode cL_law 1270 = .ok (.aload_n 1, 1) := by decide +kernel
theorem dL_law_1271 : decode cL_law 1271 = .ok (.aload_n 0, 1) := by decide +kernel
theorem dL_law_1272 : decode cL_law 1272 = .ok (.iload 5, 2) := by decide +kernel
theorem dL_law_1274 : decode cL_law 1274 = .ok (.iconst 1, 1) := by decide +kernel
theorem dL_law_1275 : decode cL_law 1275 = .ok (.iadd, 1) := by decide +kernel
theorem dL_law_1276 : decode cL_law 1276 = .ok (.iaload, 1) := by decide +kernel
theorem dL_law_1277 : decode cL_law 1277 = .ok (.aload_n 3, 1) := by decide +kernel
theorem dL_law_1278 : decode cL_law 1278 = .ok (.invokestatic 166, 3) := by decide +kernel
theorem dL_law_1281 : decode cL_law 1281 = .ok (.istore 6, 2) := by decide +kernel
theorem dL_law_1283 : decode cL_law 1283 = .ok (.aload_n 2, 1) := by decide +kernel
theorem dL_law_1284 : decode cL_law 1284 = .ok (.aload_n 0, 1) := by decide +kernel
theorem dL_law_1285 : decode cL_law 1285 = .ok (.iload 5, 2) := by decide +kernel
theorem dL_law_1287 : decode cL_law 1287 = .ok (.iconst 1, 1) := by decide +kernel
theorem dL_law_1288 : decode cL_law 1288 = .ok (.iadd, 1) := by decide +kernel
theorem dL_law_1289 : decode cL_law 1289 = .ok (.iaload, 1) := by decide +kernel
theorem dL_law_1290 : decode cL_law 1290 = .ok (.invokevirtual 168, 3) := by decide +kernel
theorem dL_law_1293 : decode cL_law 1293 = .ok (.istore 7, 2) := by decide +kernel
theorem dL_law_1295 : decode cL_law 1295 = .ok (.aload_n 2, 1) := by decide +kernel
theorem dL_law_1296 : decode cL_law 1296 = .ok (.invokevirtual 106, 3) := by decide +kernel
theorem dL_law_1299 : decode cL_law 1299 = .ok (.iload 6, 2) := by decide +kernel
theorem dL_law_1301 : decode cL_law 1301 = .ok (.if_icmp .eq 5, 3) := by decide +kernel
theorem dL_law_1304 : decode cL_law 1304 = .ok (.iconst 0, 1) := by decide +kernel
theorem dL_law_1305 : decode cL_law 1305 = .ok (.ireturn, 1) := by decide +kernel
theorem dL_law_1306 : decode cL_law 1306 = .ok (.iload 6, 2) := by decide +kernel
theorem dL_law_1308 : decode cL_law 1308 = .ok (.ifCond .ne 15, 3) := by decide +kernel
theorem dL_law_1311 : decode cL_law 1311 = .ok (.aload_n 3, 1) := by decide +kernel
theorem dL_law_1312 : decode cL_law 1312 = .ok (.iconst 0, 1) := by decide +kernel
theorem dL_law_1313 : decode cL_law 1313 = .ok (.laload, 1) := by decide +kernel
theorem dL_law_1314 : decode cL_law 1314 = .ok (.iload 7, 2) := by decide +kernel
theorem dL_law_1316 : decode cL_law 1316 = .ok (.i2l, 1) := by decide +kernel
theorem dL_law_1317 : decode cL_law 1317 = .ok (.lcmp, 1) := by decide +kernel
theorem dL_law_1318 : decode cL_law 1318 = .ok (.ifCond .eq 5, 3) := by decide +kernel
theorem dL_law_1321 : decode cL_law 1321 = .ok (.iconst 0, 1) := by decide +kernel
theorem dL_law_1322 : decode cL_law 1322 = .ok (.ireturn, 1) := by decide +kernel
theorem dL_law_1323 : decode cL_law 1323 = .ok (.goto 388, 3) := by decide +kernel
theorem dL_law_1326 : decode cL_law 1326 = .ok (.aload_n 1, 1) := by decide +kernel
theorem dL_law_1327 : decode cL_law 1327 = .ok (.aload_n 0, 1) := by decide +kernel
theorem dL_law_1328 : decode cL_law 1328 = .ok (.iload 5, 2) := by decide +kernel
theorem dL_law_1330 : decode cL_law 1330 = .ok (.iconst 1, 1) := by decide +kernel
theorem dL_law_1331 : decode cL_law 1331 = .ok (.iadd, 1) := by decide +kernel
theorem dL_law_1332 : decode cL_law 1332 = .ok (.iaload, 1) := by decide +kernel
theorem dL_law_1333 : decode cL_law 1333 = .ok (.aload_n 3, 1) := by decide +kernel
theorem dL_law_1334 : decode cL_law 1334 = .ok (.invokestatic 169, 3) := by decide +kernel
theorem dL_law_1337 : decode cL_law 1337 = .ok (.istore 6, 2) := by decide +kernel
theorem dL_law_1339 : decode cL_law 1339 = .ok (.aload_n 2, 1) := by decide +kernel
theorem dL_law_1340 : decode cL_law 1340 = .ok (.aload_n 0, 1) := by decide +kernel
theorem dL_law_1341 : decode cL_law 1341 = .ok (.iload 5, 2) := by decide +kernel
theorem dL_law_1343 : decode cL_law 1343 = .ok (.iconst 1, 1) := by decide +kernel
theorem dL_law_1344 : decode cL_law 1344 = .ok (.iadd, 1) := by decide +kernel
theorem dL_law_1345 : decode cL_law 1345 = .ok (.iaload, 1) := by decide +kernel
theorem dL_law_1346 : decode cL_law 1346 = .ok (.invokevirtual 171, 3) := by decide +kernel
theorem dL_law_1349 : decode cL_law 1349 = .ok (.istore 7, 2) := by decide +kernel
theorem dL_law_1351 : decode cL_law 1351 = .ok (.aload_n 2, 1) := by decide +kernel
theorem dL_law_1352 : decode cL_law 1352 = .ok (.invokevirtual 106, 3) := by decide +kernel
theorem dL_law_1355 : decode cL_law 1355 = .ok (.iload 6, 2) := by decide +kernel
theorem dL_law_1357 : decode cL_law 1357 = .ok (.if_icmp .eq 5, 3) := by decide +kernel
theorem dL_law_1360 : decode cL_law 1360 = .ok (.iconst 0, 1) := by decide +kernel
theorem dL_law_1361 : decode cL_law 1361 = .ok (.ireturn, 1) := by decide +kernel
theorem dL_law_1362 : decode cL_law 1362 = .ok (.iload 6, 2) := by decide +kernel
theorem dL_law_1364 : decode cL_law 1364 = .ok (.ifCond .ne 15, 3) := by decide +kernel
theorem dL_law_1367 : decode cL_law 1367 = .ok (.aload_n 3, 1) := by decide +kernel
theorem dL_law_1368 : decode cL_law 1368 = .ok (.iconst 0, 1) := by decide +kernel
theorem dL_law_1369 : decode cL_law 1369 = .ok (.laload, 1) := by decide +kernel
theorem dL_law_1370 : decode cL_law 1370 = .ok (.iload 7, 2) := by decide +kernel
theorem dL_law_1372 : decode cL_law 1372 = .ok (.i2l, 1) := by decide +kernel
theorem dL_law_1373 : decode cL_law 1373 = .ok (.lcmp, 1) := by decide +kernel
theorem dL_law_1374 : decode cL_law 1374 = .ok (.ifCond .eq 5, 3) := by decide +kernel
theorem dL_law_1377 : decode cL_law 1377 = .ok (.iconst 0, 1) := by decide +kernel
theorem dL_law_1378 : decode cL_law 1378 = .ok (.ireturn, 1) := by decide +kernel
theorem dL_law_1379 : decode cL_law 1379 = .ok (.goto 332, 3) := by decide +kernel
theorem dL_law_1382 : decode cL_law 1382 = .ok (.aload_n 1, 1) := by decide +kernel
theorem dL_law_1383 : decode cL_law 1383 = .ok (.aload_n 0, 1) := by decide +kernel
theorem dL_law_1384 : decode cL_law 1384 = .ok (.iload 5, 2) := by decide +kernel
theorem dL_law_1386 : decode cL_law 1386 = .ok (.iconst 1, 1) := by decide +kernel
theorem dL_law_1387 : decode cL_law 1387 = .ok (.iadd, 1) := by decide +kernel
theorem dL_law_1388 : decode cL_law 1388 = .ok (.iaload, 1) := by decide +kernel
theorem dL_law_1389 : decode cL_law 1389 = .ok (.aload_n 0, 1) := by decide +kernel
theorem dL_law_1390 : decode cL_law 1390 = .ok (.iload 5, 2) := by decide +kernel
theorem dL_law_1392 : decode cL_law 1392 = .ok (.iconst 2, 1) := by decide +kernel
theorem dL_law_1393 : decode cL_law 1393 = .ok (.iadd, 1) := by decide +kernel
theorem dL_law_1394 : decode cL_law 1394 = .ok (.iaload, 1) := by decide +kernel
theorem dL_law_1395 : decode cL_law 1395 = .ok (.aload_n 0, 1) := by decide +kernel
theorem dL_law_1396 : decode cL_law 1396 = .ok (.iload 5, 2) := by decide +kernel
theorem dL_law_1398 : decode cL_law 1398 = .ok (.iconst 3, 1) := by decide +kernel
theorem dL_law_1399 : decode cL_law 1399 = .ok (.iadd, 1) := by decide +kernel
theorem dL_law_1400 : decode cL_law 1400 = .ok (.iaload, 1) := by decide +kernel
theorem dL_law_1401 : decode cL_law 1401 = .ok (.aload_n 0, 1) := by decide +kernel
theorem dL_law_1402 : decode cL_law 1402 = .ok (.iload 5, 2) := by decide +kernel
theorem dL_law_1404 : decode cL_law 1404 = .ok (.iconst 4, 1) := by decide +kernel
theorem dL_law_1405 : decode cL_law 1405 = .ok (.iadd, 1) := by decide +kernel
theorem dL_law_1406 : decode cL_law 1406 = .ok (.iaload, 1) := by decide +kernel
theorem dL_law_1407 : decode cL_law 1407 = .ok (.ifCond .eq 7, 3) := by decide +kernel
theorem dL_law_1410 : decode cL_law 1410 = .ok (.iconst 1, 1) := by decide +kernel
theorem dL_law_1411 : decode cL_law 1411 = .ok (.goto 4, 3) := by decide +kernel
theorem dL_law_1414 : decode cL_law 1414 = .ok (.iconst 0, 1) := by decide +kernel
theorem dL_law_1415 : decode cL_law 1415 = .ok (.aload_n 3, 1) := by decide +kernel
theorem dL_law_1416 : decode cL_law 1416 = .ok (.invokestatic 172, 3) := by decide +kernel
theorem dL_law_1419 : decode cL_law 1419 = .ok (.istore 6, 2) := by decide +kernel
theorem dL_law_1421 : decode cL_law 1421 = .ok (.aload_n 2, 1) := by decide +kernel
theorem dL_law_1422 : decode cL_law 1422 = .ok (.aload_n 0, 1) := by decide +kernel
theorem dL_law_1423 : decode cL_law 1423 = .ok (.iload 5, 2) := by decide +kernel
theorem dL_law_1425 : decode cL_law 1425 = .ok (.iconst 1, 1) := by decide +kernel
theorem dL_law_1426 : decode cL_law 1426 = .ok (.iadd, 1) := by decide +kernel
theorem dL_law_1427 : decode cL_law 1427 = .ok (.iaload, 1) := by decide +kernel
theorem dL_law_1428 : decode cL_law 1428 = .ok (.aload_n 0, 1) := by decide +kernel
theorem dL_law_1429 : decode cL_law 1429 = .ok (.iload 5, 2) := by decide +kernel
theorem dL_law_1431 : decode cL_law 1431 = .ok (.iconst 2, 1) := by decide +kernel
theorem dL_law_1432 : decode cL_law 1432 = .ok (.iadd, 1) := by decide +kernel
theorem dL_law_1433 : decode cL_law 1433 = .ok (.iaload, 1) := by decide +kernel
theorem dL_law_1434 : decode cL_law 1434 = .ok (.aload_n 0, 1) := by decide +kernel
theorem dL_law_1435 : decode cL_law 1435 = .ok (.iload 5, 2) := by decide +kernel
theorem dL_law_1437 : decode cL_law 1437 = .ok (.iconst 3, 1) := by decide +kernel
theorem dL_law_1438 : decode cL_law 1438 = .ok (.iadd, 1) := by decide +kernel
theorem dL_law_1439 : decode cL_law 1439 = .ok (.iaload, 1) := by decide +kernel
theorem dL_law_1440 : decode cL_law 1440 = .ok (.aload_n 0, 1) := by decide +kernel
theorem dL_law_1441 : decode cL_law 1441 = .ok (.iload 5, 2) := by decide +kernel
theorem dL_law_1443 : decode cL_law 1443 = .ok (.iconst 4, 1) := by decide +kernel
theorem dL_law_1444 : decode cL_law 1444 = .ok (.iadd, 1) := by decide +kernel
theorem dL_law_1445 : decode cL_law 1445 = .ok (.iaload, 1) := by decide +kernel
theorem dL_law_1446 : decode cL_law 1446 = .ok (.ifCond .eq 7, 3) := by decide +kernel
theorem dL_law_1449 : decode cL_law 1449 = .ok (.iconst 1, 1) := by decide +kernel
theorem dL_law_1450 : decode cL_law 1450 = .ok (.goto 4, 3) := by decide +kernel
theorem dL_law_1453 : decode cL_law 1453 = .ok (.iconst 0, 1) := by decide +kernel
theorem dL_law_1454 : decode cL_law 1454 = .ok (.invokevirtual 175, 3) := by decide +kernel
theorem dL_law_1457 : decode cL_law 1457 = .ok (.istore 7, 2) := by decide +kernel
theorem dL_law_1459 : decode cL_law 1459 = .ok (.aload_n 2, 1) := by decide +kernel
theorem dL_law_1460 : decode cL_law 1460 = .ok (.invokevirtual 106, 3) := by decide +kernel
theorem dL_law_1463 : decode cL_law 1463 = .ok (.iload 6, 2) := by decide +kernel
theorem dL_law_1465 : decode cL_law 1465 = .ok (.if_icmp .eq 5, 3) := by decide +kernel
theorem dL_law_1468 : decode cL_law 1468 = .ok (.iconst 0, 1) := by decide +kernel
theorem dL_law_1469 : decode cL_law 1469 = .ok (.ireturn, 1) := by decide +kernel
theorem dL_law_1470 : decode cL_law 1470 = .ok (.iload 6, 2) := by decide +kernel
theorem dL_law_1472 : decode cL_law 1472 = .ok (.ifCond .ne 22, 3) := by decide +kernel
theorem dL_law_1475 : decode cL_law 1475 = .ok (.aload_n 3, 1) := by decide +kernel
theorem dL_law_1476 : decode cL_law 1476 = .ok (.iconst 0, 1) := by decide +kernel
theorem dL_law_1477 : decode cL_law 1477 = .ok (.laload, 1) := by decide +kernel
theorem dL_law_1478 : decode cL_law 1478 = .ok (.iload 7, 2) := by decide +kernel
theorem dL_law_1480 : decode cL_law 1480 = .ok (.ifCond .eq 7, 3) := by decide +kernel
theorem dL_law_1483 : decode cL_law 1483 = .ok (.lconst 1, 1) := by decide +kernel
theorem dL_law_1484 : decode cL_law 1484 = .ok (.goto 4, 3) := by decide +kernel
theorem dL_law_1487 : decode cL_law 1487 = .ok (.lconst 0, 1) := by decide +kernel
theorem dL_law_1488 : decode cL_law 1488 = .ok (.lcmp, 1) := by decide +kernel
theorem dL_law_1489 : decode cL_law 1489 = .ok (.ifCond .eq 5, 3) := by decide +kernel
theorem dL_law_1492 : decode cL_law 1492 = .ok (.iconst 0, 1) := by decide +kernel
theorem dL_law_1493 : decode cL_law 1493 = .ok (.ireturn, 1) := by decide +kernel
theorem dL_law_1494 : decode cL_law 1494 = .ok (.goto 217, 3) := by decide +kernel
theorem dL_law_1497 : decode cL_law 1497 = .ok (.aload_n 1, 1) := by decide +kernel
theorem dL_law_1498 : decode cL_law 1498 = .ok (.aload_n 0, 1) := by decide +kernel
theorem dL_law_1499 : decode cL_law 1499 = .ok (.iload 5, 2) := by decide +kernel
theorem dL_law_1501 : decode cL_law 1501 = .ok (.iconst 1, 1) := by decide +kernel
theorem dL_law_1502 : decode cL_law 1502 = .ok (.iadd, 1) := by decide +kernel
theorem dL_law_1503 : decode cL_law 1503 = .ok (.iaload, 1) := by decide +kernel
theorem dL_law_1504 : decode cL_law 1504 = .ok (.aload_n 0, 1) := by decide +kernel
theorem dL_law_1505 : decode cL_law 1505 = .ok (.iload 5, 2) := by decide +kernel
theorem dL_law_1507 : decode cL_law 1507 = .ok (.iconst 2, 1) := by decide +kernel
theorem dL_law_1508 : decode cL_law 1508 = .ok (.iadd, 1) := by decide +kernel
theorem dL_law_1509 : decode cL_law 1509 = .ok (.iaload, 1) := by decide +kernel
theorem dL_law_1510 : decode cL_law 1510 = .ok (.aload_n 0, 1) := by decide +kernel
theorem dL_law_1511 : decode cL_law 1511 = .ok (.iload 5, 2) := by decide +kernel
theorem dL_law_1513 : decode cL_law 1513 = .ok (.iconst 3, 1) := by decide +kernel
theorem dL_law_1514 : decode cL_law 1514 = .ok (.iadd, 1) := by decide +kernel
theorem dL_law_1515 : decode cL_law 1515 = .ok (.iaload, 1) := by decide +kernel
theorem dL_law_1516 : decode cL_law 1516 = .ok (.aload_n 3, 1) := by decide +kernel
theorem dL_law_1517 : decode cL_law 1517 = .ok (.invokestatic 176, 3) := by decide +kernel
theorem dL_law_1520 : decode cL_law 1520 = .ok (.istore 6, 2) := by decide +kernel
theorem dL_law_1522 : decode cL_law 1522 = .ok (.aload_n 2, 1) := by decide +kernel
theorem dL_law_1523 : decode cL_law 1523 = .ok (.aload_n 0, 1) := by decide +kernel
theorem dL_law_1524 : decode cL_law 1524 = .ok (.iload 5, 2) := by decide +kernel
theorem dL_law_1526 : decode cL_law 1526 = .ok (.iconst 1, 1) := by decide +kernel
theorem dL_law_1527 : decode cL_law 1527 = .ok (.iadd, 1) := by decide +kernel
theorem dL_law_1528 : decode cL_law 1528 = .ok (.iaload, 1) := by decide +kernel
theorem dL_law_1529 : decode cL_law 1529 = .ok (.aload_n 0, 1) := by decide +kernel
theorem dL_law_1530 : decode cL_law 1530 = .ok (.iload 5, 2) := by decide +kernel
theorem dL_law_1532 : decode cL_law 1532 = .ok (.iconst 2, 1) := by decide +kernel
theorem dL_law_1533 : decode cL_law 1533 = .ok (.iadd, 1) := by decide +kernel
theorem dL_law_1534 : decode cL_law 1534 = .ok (.iaload, 1) := by decide +kernel
theorem dL_law_1535 : decode cL_law 1535 = .ok (.aload_n 0, 1) := by decide +kernel
theorem dL_law_1536 : decode cL_law 1536 = .ok (.iload 5, 2) := by decide +kernel
theorem dL_law_1538 : decode cL_law 1538 = .ok (.iconst 3, 1) := by decide +kernel
theorem dL_law_1539 : decode cL_law 1539 = .ok (.iadd, 1) := by decide +kernel
theorem dL_law_1540 : decode cL_law 1540 = .ok (.iaload, 1) := by decide +kernel
theorem dL_law_1541 : decode cL_law 1541 = .ok (.invokevirtual 178, 3) := by decide +kernel
theorem dL_law_1544 : decode cL_law 1544 = .ok (.istore 7, 2) := by decide +kernel
theorem dL_law_1546 : decode cL_law 1546 = .ok (.aload_n 2, 1) := by decide +kernel
theorem dL_law_1547 : decode cL_law 1547 = .ok (.invokevirtual 106, 3) := by decide +kernel
theorem dL_law_1550 : decode cL_law 1550 = .ok (.iload 6, 2) := by decide +kernel
theorem dL_law_1552 : decode cL_law 1552 = .ok (.if_icmp .eq 5, 3) := by decide +kernel
theorem dL_law_1555 : decode cL_law 1555 = .ok (.iconst 0, 1) := by decide +kernel
theorem dL_law_1556 : decode cL_law 1556 = .ok (.ireturn, 1) := by decide +kernel
theorem dL_law_1557 : decode cL_law 1557 = .ok (.iload 6, 2) := by decide +kernel
theorem dL_law_1559 : decode cL_law 1559 = .ok (.ifCond .ne 15, 3) := by decide +kernel
theorem dL_law_1562 : decode cL_law 1562 = .ok (.aload_n 3, 1) := by decide +kernel
theorem dL_law_1563 : decode cL_law 1563 = .ok (.iconst 0, 1) := by decide +kernel
theorem dL_law_1564 : decode cL_law 1564 = .ok (.laload, 1) := by decide +kernel
theorem dL_law_1565 : decode cL_law 1565 = .ok (.iload 7, 2) := by decide +kernel
theorem dL_law_1567 : decode cL_law 1567 = .ok (.i2l, 1) := by decide +kernel
theorem dL_law_1568 : decode cL_law 1568 = .ok (.lcmp, 1) := by decide +kernel
theorem dL_law_1569 : decode cL_law 1569 = .ok (.ifCond .eq 5, 3) := by decide +kernel
theorem dL_law_1572 : decode cL_law 1572 = .ok (.iconst 0, 1) := by decide +kernel
theorem dL_law_1573 : decode cL_law 1573 = .ok (.ireturn, 1) := by decide +kernel
theorem dL_law_1574 : decode cL_law 1574 = .ok (.goto 137, 3) := by decide +kernel
theorem dL_law_1577 : decode cL_law 1577 = .ok (.aload_n 1, 1) := by decide +kernel
theorem dL_law_1578 : decode cL_law 1578 = .ok (.invokevirtual 179, 3) := by decide +kernel
theorem dL_law_1581 : decode cL_law 1581 = .ok (.aload_n 2, 1) := by decide +kernel
theorem dL_law_1582 : decode cL_law 1582 = .ok (.invokevirtual 183, 3) := by decide +kernel
theorem dL_law_1585 : decode cL_law 1585 = .ok (.lcmp, 1) := by decide +kernel
theorem dL_law_1586 : decode cL_law 1586 = .ok (.ifCond .eq 125, 3) := by decide +kernel
theorem dL_law_1589 : decode cL_law 1589 = .ok (.iconst 0, 1) := by decide +kernel
theorem dL_law_1590 : decode cL_law 1590 = .ok (.ireturn, 1) := by decide +kernel
theorem dL_law_1591 : decode cL_law 1591 = .ok (.aload_n 1, 1) := by decide +kernel
theorem dL_law_1592 : decode cL_law 1592 = .ok (.aload 4, 2) := by decide +kernel
theorem dL_law_1594 : decode cL_law 1594 = .ok (.invokestatic 184, 3) := by decide +kernel
theorem dL_law_1597 : decode cL_law 1597 = .ok (.istore 6, 2) := by decide +kernel
theorem dL_law_1599 : decode cL_law 1599 = .ok (.aload_n 2, 1) := by decide +kernel
theorem dL_law_1600 : decode cL_law 1600 = .ok (.invokevirtual 187, 3) := by decide +kernel
theorem dL_law_1603 : decode cL_law 1603 = .ok (.fstore 7, 2) := by decide +kernel
theorem dL_law_1605 : decode cL_law 1605 = .ok (.aload_n 2, 1) := by decide +kernel
theorem dL_law_1606 : decode cL_law 1606 = .ok (.invokevirtual 106, 3) := by decide +kernel
theorem dL_law_1609 : decode cL_law 1609 = .ok (.iload 6, 2) := by decide +kernel
theorem dL_law_1611 : decode cL_law 1611 = .ok (.if_icmp .eq 5, 3) := by decide +kernel
theorem dL_law_1614 : decode cL_law 1614 = .ok (.iconst 0, 1) := by decide +kernel
theorem dL_law_1615 : decode cL_law 1615 = .ok (.ireturn, 1) := by decide +kernel
theorem dL_law_1616 : decode cL_law 1616 = .ok (.iload 6, 2) := by decide +kernel
theorem dL_law_1618 : decode cL_law 1618 = .ok (.ifCond .ne 36, 3) := by decide +kernel
theorem dL_law_1621 : decode cL_law 1621 = .ok (.aload 4, 2) := by decide +kernel
theorem dL_law_1623 : decode cL_law 1623 = .ok (.iconst 0, 1) := by decide +kernel
theorem dL_law_1624 : decode cL_law 1624 = .ok (.daload, 1) := by decide +kernel
theorem dL_law_1625 : decode cL_law 1625 = .ok (.fload 7, 2) := by decide +kernel
theorem dL_law_1627 : decode cL_law 1627 = .ok (.f2d, 1) := by decide +kernel
theorem dL_law_1628 : decode cL_law 1628 = .ok (.dcmp .l, 1) := by decide +kernel
theorem dL_law_1629 : decode cL_law 1629 = .ok (.ifCond .eq 25, 3) := by decide +kernel
theorem dL_law_1632 : decode cL_law 1632 = .ok (.aload 4, 2) := by decide +kernel
theorem dL_law_1634 : decode cL_law 1634 = .ok (.iconst 0, 1) := by decide +kernel
theorem dL_law_1635 : decode cL_law 1635 = .ok (.daload, 1) := by decide +kernel
theorem dL_law_1636 : decode cL_law 1636 = .ok (.aload 4, 2) := by decide +kernel
theorem dL_law_1638 : decode cL_law 1638 = .ok (.iconst 0, 1) := by decide +kernel
theorem dL_law_1639 : decode cL_law 1639 = .ok (.daload, 1) := by decide +kernel
theorem dL_law_1640 : decode cL_law 1640 = .ok (.dcmp .l, 1) := by decide +kernel
theorem dL_law_1641 : decode cL_law 1641 = .ok (.ifCond .eq 11, 3) := by decide +kernel
theorem dL_law_1644 : decode cL_law 1644 = .ok (.fload 7, 2) := by decide +kernel
theorem dL_law_1646 : decode cL_law 1646 = .ok (.fload 7, 2) := by decide +kernel
theorem dL_law_1648 : decode cL_law 1648 = .ok (.fcmp .l, 1) := by decide +kernel
theorem dL_law_1649 : decode cL_law 1649 = .ok (.ifCond .ne 5, 3) := by decide +kernel
theorem dL_law_1652 : decode cL_law 1652 = .ok (.iconst 0, 1) := by decide +kernel
theorem dL_law_1653 : decode cL_law 1653 = .ok (.ireturn, 1) := by decide +kernel
theorem dL_law_1654 : decode cL_law 1654 = .ok (.goto 57, 3) := by decide +kernel
theorem dL_law_1657 : decode cL_law 1657 = .ok (.aload_n 1, 1) := by decide +kernel
theorem dL_law_1658 : decode cL_law 1658 = .ok (.invokevirtual 188, 3) := by decide +kernel
theorem dL_law_1661 : decode cL_law 1661 = .ok (.dstore 6, 2) := by decide +kernel
theorem dL_law_1663 : decode cL_law 1663 = .ok (.aload_n 2, 1) := by decide +kernel
theorem dL_law_1664 : decode cL_law 1664 = .ok (.invokevirtual 192, 3) := by decide +kernel
theorem dL_law_1667 : decode cL_law 1667 = .ok (.dstore 8, 2) := by decide +kernel
theorem dL_law_1669 : decode cL_law 1669 = .ok (.dload 6, 2) := by decide +kernel
theorem dL_law_1671 : decode cL_law 1671 = .ok (.dload 8, 2) := by decide +kernel
theorem dL_law_1673 : decode cL_law 1673 = .ok (.dcmp .l, 1) := by decide +kernel
theorem dL_law_1674 : decode cL_law 1674 = .ok (.ifCond .eq 21, 3) := by decide +kernel
theorem dL_law_1677 : decode cL_law 1677 = .ok (.dload 6, 2) := by decide +kernel
theorem dL_law_1679 : decode cL_law 1679 = .ok (.dload 6, 2) := by decide +kernel
theorem dL_law_1681 : decode cL_law 1681 = .ok (.dcmp .l, 1) := by decide +kernel
theorem dL_law_1682 : decode cL_law 1682 = .ok (.ifCond .eq 11, 3) := by decide +kernel
theorem dL_law_1685 : decode cL_law 1685 = .ok (.dload 8, 2) := by decide +kernel
theorem dL_law_1687 : decode cL_law 1687 = .ok (.dload 8, 2) := by decide +kernel
theorem dL_law_1689 : decode cL_law 1689 = .ok (.dcmp .l, 1) := by decide +kernel
theorem dL_law_1690 : decode cL_law 1690 = .ok (.ifCond .ne 5, 3) := by decide +kernel
theorem dL_law_1693 : decode cL_law 1693 = .ok (.iconst 0, 1) := by decide +kernel
theorem dL_law_1694 : decode cL_law 1694 = .ok (.ireturn, 1) := by decide +kernel
theorem dL_law_1695 : decode cL_law 1695 = .ok (.goto 16, 3) := by decide +kernel
theorem dL_law_1698 : decode cL_law 1698 = .ok (.aload_n 1, 1) := by decide +kernel
theorem dL_law_1699 : decode cL_law 1699 = .ok (.invokevirtual 193, 3) := by decide +kernel
theorem dL_law_1702 : decode cL_law 1702 = .ok (.aload_n 2, 1) := by decide +kernel
theorem dL_law_1703 : decode cL_law 1703 = .ok (.invokevirtual 196, 3) := by decide +kernel
theorem dL_law_1706 : decode cL_law 1706 = .ok (.if_icmp .eq 5, 3) := by decide +kernel
theorem dL_law_1709 : decode cL_law 1709 = .ok (.iconst 0, 1) := by decide +kernel
theorem dL_law_1710 : decode cL_law 1710 = .ok (.ireturn, 1) := by decide +kernel
theorem dL_law_1711 : decode cL_law 1711 = .ok (.iinc 5 5, 3) := by decide +kernel
theorem dL_law_1714 : decode cL_law 1714 = .ok (.goto (-1686), 3) := by decide +kernel
theorem dL_law_1717 : decode cL_law 1717 = .ok (.iconst 1, 1) := by decide +kernel
theorem dL_law_1718 : decode cL_law 1718 = .ok (.ireturn, 1) := by decide +kernel
end
