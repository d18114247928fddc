section
-- ===== PART A: goes FIRST, ahead of the names: the tables' words, and 'selects' of the private methods out of them =====
/-- a private method of a class that the tables say can be made, by its rows of tables_1 -/
def lw_okq (q : MethodName × Nat) : Prop := (q.1.cls ≠ "java/lang/invoke/MethodHandle" ∧ q.1.cls ≠ "java/lang/invoke/VarHandle") ∧ Cond.instantiable q.1.cls q.2 ∈ tables_1 ∧ Cond.privateMethod q.1 ∈ tables_1 ∧ Cond.instanceMethod q.1 ∈ tables_1
theorem lw_p0 : lw_okq (⟨"java/lang/Throwable", "fillInStackTrace", "(I)Ljava/lang/Throwable;"⟩, 6) := ⟨⟨by decide +kernel, by decide +kernel⟩, List.mem_of_getElem? (i := 254) (by decide +kernel), List.mem_of_getElem? (i := 252) (by decide +kernel), List.mem_of_getElem? (i := 253) (by decide +kernel)⟩
theorem lw_p1 : lw_okq (⟨"Dotpress", "typedKey", "()I"⟩, 7) := ⟨⟨by decide +kernel, by decide +kernel⟩, List.mem_of_getElem? (i := 22) (by decide +kernel), List.mem_of_getElem? (i := 313) (by decide +kernel), List.mem_of_getElem? (i := 314) (by decide +kernel)⟩
theorem lw_p2 : lw_okq (⟨"Dotpress", "translateTexts", "()I"⟩, 7) := ⟨⟨by decide +kernel, by decide +kernel⟩, List.mem_of_getElem? (i := 22) (by decide +kernel), List.mem_of_getElem? (i := 370) (by decide +kernel), List.mem_of_getElem? (i := 371) (by decide +kernel)⟩
theorem lw_p3 : lw_okq (⟨"Dotpress$RuleBook", "addCells", "(LDotpress$Row;IIILDotpress$Pieces;)I"⟩, 5) := ⟨⟨by decide +kernel, by decide +kernel⟩, List.mem_of_getElem? (i := 44) (by decide +kernel), List.mem_of_getElem? (i := 401) (by decide +kernel), List.mem_of_getElem? (i := 402) (by decide +kernel)⟩
theorem lw_p4 : lw_okq (⟨"Dotpress$Text", "unmark", "(I)V"⟩, 7) := ⟨⟨by decide +kernel, by decide +kernel⟩, List.mem_of_getElem? (i := 427) (by decide +kernel), List.mem_of_getElem? (i := 425) (by decide +kernel), List.mem_of_getElem? (i := 426) (by decide +kernel)⟩
theorem lw_p5 : lw_okq (⟨"Dotpress$Text", "beginWord", "(II)V"⟩, 7) := ⟨⟨by decide +kernel, by decide +kernel⟩, List.mem_of_getElem? (i := 427) (by decide +kernel), List.mem_of_getElem? (i := 454) (by decide +kernel), List.mem_of_getElem? (i := 455) (by decide +kernel)⟩
theorem lw_p6 : lw_okq (⟨"Dotpress", "textNumbered", "(I)LDotpress$Text;"⟩, 7) := ⟨⟨by decide +kernel, by decide +kernel⟩, List.mem_of_getElem? (i := 22) (by decide +kernel), List.mem_of_getElem? (i := 659) (by decide +kernel), List.mem_of_getElem? (i := 660) (by decide +kernel)⟩
theorem lw_p7 : lw_okq (⟨"Dotpress", "textWithWord", "(II)LDotpress$Text;"⟩, 7) := ⟨⟨by decide +kernel, by decide +kernel⟩, List.mem_of_getElem? (i := 22) (by decide +kernel), List.mem_of_getElem? (i := 671) (by decide +kernel), List.mem_of_getElem? (i := 672) (by decide +kernel)⟩
theorem lw_p8 : lw_okq (⟨"Dotpress", "planLine", "(LDotpress$Text;I)V"⟩, 7) := ⟨⟨by decide +kernel, by decide +kernel⟩, List.mem_of_getElem? (i := 22) (by decide +kernel), List.mem_of_getElem? (i := 747) (by decide +kernel), List.mem_of_getElem? (i := 748) (by decide +kernel)⟩
theorem lw_p9 : lw_okq (⟨"DotpressModel", "goesOn", "(I)Z"⟩, 28) := ⟨⟨by decide +kernel, by decide +kernel⟩, List.mem_of_getElem? (i := 871) (by decide +kernel), List.mem_of_getElem? (i := 973) (by decide +kernel), List.mem_of_getElem? (i := 974) (by decide +kernel)⟩
theorem lw_p10 : lw_okq (⟨"DotpressModel", "ruleLetters", "()I"⟩, 28) := ⟨⟨by decide +kernel, by decide +kernel⟩, List.mem_of_getElem? (i := 871) (by decide +kernel), List.mem_of_getElem? (i := 985) (by decide +kernel), List.mem_of_getElem? (i := 986) (by decide +kernel)⟩
theorem lw_p11 : lw_okq (⟨"DotpressModel", "hasBlank", "()Z"⟩, 28) := ⟨⟨by decide +kernel, by decide +kernel⟩, List.mem_of_getElem? (i := 871) (by decide +kernel), List.mem_of_getElem? (i := 989) (by decide +kernel), List.mem_of_getElem? (i := 990) (by decide +kernel)⟩
theorem lw_p12 : lw_okq (⟨"DotpressModel", "ruleOf", "(I)I"⟩, 28) := ⟨⟨by decide +kernel, by decide +kernel⟩, List.mem_of_getElem? (i := 871) (by decide +kernel), List.mem_of_getElem? (i := 996) (by decide +kernel), List.mem_of_getElem? (i := 997) (by decide +kernel)⟩
theorem lw_p13 : lw_okq (⟨"DotpressModel", "keepsCells", "()V"⟩, 28) := ⟨⟨by decide +kernel, by decide +kernel⟩, List.mem_of_getElem? (i := 871) (by decide +kernel), List.mem_of_getElem? (i := 1000) (by decide +kernel), List.mem_of_getElem? (i := 1001) (by decide +kernel)⟩
theorem lw_p14 : lw_okq (⟨"DotpressModel", "wordsOf", "(I)I"⟩, 28) := ⟨⟨by decide +kernel, by decide +kernel⟩, List.mem_of_getElem? (i := 871) (by decide +kernel), List.mem_of_getElem? (i := 1004) (by decide +kernel), List.mem_of_getElem? (i := 1005) (by decide +kernel)⟩
theorem lw_p15 : lw_okq (⟨"DotpressModel", "isBegin", "(II)Z"⟩, 28) := ⟨⟨by decide +kernel, by decide +kernel⟩, List.mem_of_getElem? (i := 871) (by decide +kernel), List.mem_of_getElem? (i := 1008) (by decide +kernel), List.mem_of_getElem? (i := 1009) (by decide +kernel)⟩
def lw_privs_1 : List (MethodName × Nat) := [(⟨"java/lang/Throwable", "fillInStackTrace", "(I)Ljava/lang/Throwable;"⟩, 6), (⟨"Dotpress", "typedKey", "()I"⟩, 7), (⟨"Dotpress", "translateTexts", "()I"⟩, 7), (⟨"Dotpress$RuleBook", "addCells", "(LDotpress$Row;IIILDotpress$Pieces;)I"⟩, 5), (⟨"Dotpress$Text", "unmark", "(I)V"⟩, 7), (⟨"Dotpress$Text", "beginWord", "(II)V"⟩, 7), (⟨"Dotpress", "textNumbered", "(I)LDotpress$Text;"⟩, 7), (⟨"Dotpress", "textWithWord", "(II)LDotpress$Text;"⟩, 7), (⟨"Dotpress", "planLine", "(LDotpress$Text;I)V"⟩, 7), (⟨"DotpressModel", "goesOn", "(I)Z"⟩, 28), (⟨"DotpressModel", "ruleLetters", "()I"⟩, 28), (⟨"DotpressModel", "hasBlank", "()Z"⟩, 28), (⟨"DotpressModel", "ruleOf", "(I)I"⟩, 28), (⟨"DotpressModel", "keepsCells", "()V"⟩, 28), (⟨"DotpressModel", "wordsOf", "(I)I"⟩, 28), (⟨"DotpressModel", "isBegin", "(II)Z"⟩, 28)]
theorem lw_r1 : ∀ q ∈ lw_privs_1, lw_okq q := List.forall_mem_cons.mpr ⟨lw_p0, List.forall_mem_cons.mpr ⟨lw_p1, List.forall_mem_cons.mpr ⟨lw_p2, List.forall_mem_cons.mpr ⟨lw_p3, List.forall_mem_cons.mpr ⟨lw_p4, List.forall_mem_cons.mpr ⟨lw_p5, List.forall_mem_cons.mpr ⟨lw_p6, List.forall_mem_cons.mpr ⟨lw_p7, List.forall_mem_cons.mpr ⟨lw_p8, List.forall_mem_cons.mpr ⟨lw_p9, List.forall_mem_cons.mpr ⟨lw_p10, List.forall_mem_cons.mpr ⟨lw_p11, List.forall_mem_cons.mpr ⟨lw_p12, List.forall_mem_cons.mpr ⟨lw_p13, List.forall_mem_cons.mpr ⟨lw_p14, List.forall_mem_cons.mpr ⟨lw_p15, fun _ h => absurd h List.not_mem_nil⟩⟩⟩⟩⟩⟩⟩⟩⟩⟩⟩⟩⟩⟩⟩⟩
theorem lw_p16 : lw_okq (⟨"DotpressModel", "translates", "(II)V"⟩, 28) := ⟨⟨by decide +kernel, by decide +kernel⟩, List.mem_of_getElem? (i := 871) (by decide +kernel), List.mem_of_getElem? (i := 1012) (by decide +kernel), List.mem_of_getElem? (i := 1013) (by decide +kernel)⟩
theorem lw_p17 : lw_okq (⟨"DotpressModel", "beginOf", "(II)I"⟩, 28) := ⟨⟨by decide +kernel, by decide +kernel⟩, List.mem_of_getElem? (i := 871) (by decide +kernel), List.mem_of_getElem? (i := 1016) (by decide +kernel), List.mem_of_getElem? (i := 1017) (by decide +kernel)⟩
theorem lw_p18 : lw_okq (⟨"DotpressModel", "letterCount", "(II)I"⟩, 28) := ⟨⟨by decide +kernel, by decide +kernel⟩, List.mem_of_getElem? (i := 871) (by decide +kernel), List.mem_of_getElem? (i := 1020) (by decide +kernel), List.mem_of_getElem? (i := 1021) (by decide +kernel)⟩
theorem lw_p19 : lw_okq (⟨"DotpressModel", "isException", "(II)Z"⟩, 28) := ⟨⟨by decide +kernel, by decide +kernel⟩, List.mem_of_getElem? (i := 871) (by decide +kernel), List.mem_of_getElem? (i := 1024) (by decide +kernel), List.mem_of_getElem? (i := 1025) (by decide +kernel)⟩
theorem lw_p20 : lw_okq (⟨"DotpressModel", "isThis", "(III)Z"⟩, 28) := ⟨⟨by decide +kernel, by decide +kernel⟩, List.mem_of_getElem? (i := 871) (by decide +kernel), List.mem_of_getElem? (i := 1028) (by decide +kernel), List.mem_of_getElem? (i := 1029) (by decide +kernel)⟩
theorem lw_p21 : lw_okq (⟨"DotpressModel", "longest", "(IIII)I"⟩, 28) := ⟨⟨by decide +kernel, by decide +kernel⟩, List.mem_of_getElem? (i := 871) (by decide +kernel), List.mem_of_getElem? (i := 1032) (by decide +kernel), List.mem_of_getElem? (i := 1033) (by decide +kernel)⟩
theorem lw_p22 : lw_okq (⟨"DotpressModel", "lengthOf", "(I)I"⟩, 28) := ⟨⟨by decide +kernel, by decide +kernel⟩, List.mem_of_getElem? (i := 871) (by decide +kernel), List.mem_of_getElem? (i := 1036) (by decide +kernel), List.mem_of_getElem? (i := 1037) (by decide +kernel)⟩
theorem lw_p23 : lw_okq (⟨"DotpressModel", "letterOf", "(II)I"⟩, 28) := ⟨⟨by decide +kernel, by decide +kernel⟩, List.mem_of_getElem? (i := 871) (by decide +kernel), List.mem_of_getElem? (i := 1040) (by decide +kernel), List.mem_of_getElem? (i := 1041) (by decide +kernel)⟩
theorem lw_p24 : lw_okq (⟨"DotpressModel", "stands", "(III)Z"⟩, 28) := ⟨⟨by decide +kernel, by decide +kernel⟩, List.mem_of_getElem? (i := 871) (by decide +kernel), List.mem_of_getElem? (i := 1047) (by decide +kernel), List.mem_of_getElem? (i := 1048) (by decide +kernel)⟩
theorem lw_p25 : lw_okq (⟨"DotpressModel", "moves", "(II)V"⟩, 28) := ⟨⟨by decide +kernel, by decide +kernel⟩, List.mem_of_getElem? (i := 871) (by decide +kernel), List.mem_of_getElem? (i := 1051) (by decide +kernel), List.mem_of_getElem? (i := 1052) (by decide +kernel)⟩
theorem lw_p26 : lw_okq (⟨"DotpressModel", "puts", "(IIIII)V"⟩, 28) := ⟨⟨by decide +kernel, by decide +kernel⟩, List.mem_of_getElem? (i := 871) (by decide +kernel), List.mem_of_getElem? (i := 1055) (by decide +kernel), List.mem_of_getElem? (i := 1056) (by decide +kernel)⟩
theorem lw_p27 : lw_okq (⟨"DotpressModel", "textsChanged", "()I"⟩, 28) := ⟨⟨by decide +kernel, by decide +kernel⟩, List.mem_of_getElem? (i := 871) (by decide +kernel), List.mem_of_getElem? (i := 1059) (by decide +kernel), List.mem_of_getElem? (i := 1060) (by decide +kernel)⟩
theorem lw_p28 : lw_okq (⟨"DotpressModel", "exceptionInBuffer", "()I"⟩, 28) := ⟨⟨by decide +kernel, by decide +kernel⟩, List.mem_of_getElem? (i := 871) (by decide +kernel), List.mem_of_getElem? (i := 1079) (by decide +kernel), List.mem_of_getElem? (i := 1080) (by decide +kernel)⟩
theorem lw_p29 : lw_okq (⟨"DotpressModel", "isText", "(I)Z"⟩, 28) := ⟨⟨by decide +kernel, by decide +kernel⟩, List.mem_of_getElem? (i := 871) (by decide +kernel), List.mem_of_getElem? (i := 1087) (by decide +kernel), List.mem_of_getElem? (i := 1088) (by decide +kernel)⟩
theorem lw_p30 : lw_okq (⟨"DotpressModel", "isWord", "(II)Z"⟩, 28) := ⟨⟨by decide +kernel, by decide +kernel⟩, List.mem_of_getElem? (i := 871) (by decide +kernel), List.mem_of_getElem? (i := 1103) (by decide +kernel), List.mem_of_getElem? (i := 1104) (by decide +kernel)⟩
theorem lw_p31 : lw_okq (⟨"DotpressModel", "breaks", "(II)I"⟩, 28) := ⟨⟨by decide +kernel, by decide +kernel⟩, List.mem_of_getElem? (i := 871) (by decide +kernel), List.mem_of_getElem? (i := 1115) (by decide +kernel), List.mem_of_getElem? (i := 1116) (by decide +kernel)⟩
def lw_privs_2 : List (MethodName × Nat) := [(⟨"DotpressModel", "translates", "(II)V"⟩, 28), (⟨"DotpressModel", "beginOf", "(II)I"⟩, 28), (⟨"DotpressModel", "letterCount", "(II)I"⟩, 28), (⟨"DotpressModel", "isException", "(II)Z"⟩, 28), (⟨"DotpressModel", "isThis", "(III)Z"⟩, 28), (⟨"DotpressModel", "longest", "(IIII)I"⟩, 28), (⟨"DotpressModel", "lengthOf", "(I)I"⟩, 28), (⟨"DotpressModel", "letterOf", "(II)I"⟩, 28), (⟨"DotpressModel", "stands", "(III)Z"⟩, 28), (⟨"DotpressModel", "moves", "(II)V"⟩, 28), (⟨"DotpressModel", "puts", "(IIIII)V"⟩, 28), (⟨"DotpressModel", "textsChanged", "()I"⟩, 28), (⟨"DotpressModel", "exceptionInBuffer", "()I"⟩, 28), (⟨"DotpressModel", "isText", "(I)Z"⟩, 28), (⟨"DotpressModel", "isWord", "(II)Z"⟩, 28), (⟨"DotpressModel", "breaks", "(II)I"⟩, 28)]
theorem lw_r2 : ∀ q ∈ lw_privs_2, lw_okq q := List.forall_mem_cons.mpr ⟨lw_p16, List.forall_mem_cons.mpr ⟨lw_p17, List.forall_mem_cons.mpr ⟨lw_p18, List.forall_mem_cons.mpr ⟨lw_p19, List.forall_mem_cons.mpr ⟨lw_p20, List.forall_mem_cons.mpr ⟨lw_p21, List.forall_mem_cons.mpr ⟨lw_p22, List.forall_mem_cons.mpr ⟨lw_p23, List.forall_mem_cons.mpr ⟨lw_p24, List.forall_mem_cons.mpr ⟨lw_p25, List.forall_mem_cons.mpr ⟨lw_p26, List.forall_mem_cons.mpr ⟨lw_p27, List.forall_mem_cons.mpr ⟨lw_p28, List.forall_mem_cons.mpr ⟨lw_p29, List.forall_mem_cons.mpr ⟨lw_p30, List.forall_mem_cons.mpr ⟨lw_p31, fun _ h => absurd h List.not_mem_nil⟩⟩⟩⟩⟩⟩⟩⟩⟩⟩⟩⟩⟩⟩⟩⟩
theorem lw_p32 : lw_okq (⟨"DotpressModel", "addsCell", "(I)V"⟩, 28) := ⟨⟨by decide +kernel, by decide +kernel⟩, List.mem_of_getElem? (i := 871) (by decide +kernel), List.mem_of_getElem? (i := 1119) (by decide +kernel), List.mem_of_getElem? (i := 1120) (by decide +kernel)⟩
theorem lw_p33 : lw_okq (⟨"DotpressModel", "begins", "()V"⟩, 28) := ⟨⟨by decide +kernel, by decide +kernel⟩, List.mem_of_getElem? (i := 871) (by decide +kernel), List.mem_of_getElem? (i := 1123) (by decide +kernel), List.mem_of_getElem? (i := 1124) (by decide +kernel)⟩
theorem lw_p34 : lw_okq (⟨"DotpressModel", "isWorn", "(I)Z"⟩, 28) := ⟨⟨by decide +kernel, by decide +kernel⟩, List.mem_of_getElem? (i := 871) (by decide +kernel), List.mem_of_getElem? (i := 1139) (by decide +kernel), List.mem_of_getElem? (i := 1140) (by decide +kernel)⟩
theorem lw_p35 : lw_okq (⟨"DotpressModel", "due", "(II)I"⟩, 28) := ⟨⟨by decide +kernel, by decide +kernel⟩, List.mem_of_getElem? (i := 871) (by decide +kernel), List.mem_of_getElem? (i := 1143) (by decide +kernel), List.mem_of_getElem? (i := 1144) (by decide +kernel)⟩
theorem lw_p36 : lw_okq (⟨"DotpressModel", "isEmbossed", "(II)Z"⟩, 28) := ⟨⟨by decide +kernel, by decide +kernel⟩, List.mem_of_getElem? (i := 871) (by decide +kernel), List.mem_of_getElem? (i := 1147) (by decide +kernel), List.mem_of_getElem? (i := 1148) (by decide +kernel)⟩
def lw_privs_3 : List (MethodName × Nat) := [(⟨"DotpressModel", "addsCell", "(I)V"⟩, 28), (⟨"DotpressModel", "begins", "()V"⟩, 28), (⟨"DotpressModel", "isWorn", "(I)Z"⟩, 28), (⟨"DotpressModel", "due", "(II)I"⟩, 28), (⟨"DotpressModel", "isEmbossed", "(II)Z"⟩, 28)]
theorem lw_r3 : ∀ q ∈ lw_privs_3, lw_okq q := List.forall_mem_cons.mpr ⟨lw_p32, List.forall_mem_cons.mpr ⟨lw_p33, List.forall_mem_cons.mpr ⟨lw_p34, List.forall_mem_cons.mpr ⟨lw_p35, List.forall_mem_cons.mpr ⟨lw_p36, fun _ h => absurd h List.not_mem_nil⟩⟩⟩⟩⟩
def lw_privs : List (MethodName × Nat) := lw_privs_1 ++ (lw_privs_2 ++ (lw_privs_3))
def lw_tbl : List Cond := k2_sels lw_privs ++ tables_1
theorem lw_privs_ok : ∀ q ∈ lw_privs, lw_okq q := by
  show ∀ q ∈ lw_privs_1 ++ (lw_privs_2 ++ (lw_privs_3)), lw_okq q
  exact List.forall_mem_append.mpr ⟨lw_r1, List.forall_mem_append.mpr ⟨lw_r2, lw_r3⟩⟩
/-- the streams that the claim lets the run draw from -/
abbrev lw_cs : List Choice := [Jvm.Choice.named "NaN.bits"]
theorem lw_bits : nanBits ∈ lw_cs := by first | decide | exact List.mem_cons_self | simp [lw_cs, nanBits]
end
section
/-! ===== BEGIN words of one list among another's, by their places ===== -/
theorem goodIn_r {big : List Cond} (ws : List Cond) (ps : List Nat) (hp : ws = ps.filterMap (fun i => big[i]?)) (h : ws.all goodWord = true) : GoodIn big ws := by
  intro w hw
  have h1 := List.all_eq_true.mp h w hw
  rw [hp] at hw
  obtain ⟨i, -, hi⟩ := List.mem_filterMap.mp hw
  have hm : w ∈ big := by first | exact List.mem_of_getElem? hi | exact List.getElem?_mem hi
  exact ⟨hm, good_of_word h1⟩
theorem goodIn_app {big a b : List Cond} (ha : GoodIn big a) (hb : GoodIn big b) : GoodIn big (a ++ b) := fun w h => (List.mem_append.mp h).elim (ha w) (hb w)
theorem goodIn_ca {big a b : List Cond} {c : Cond} (ha : GoodIn big (c :: a)) (hb : GoodIn big b) : GoodIn big (c :: (a ++ b)) := fun w h => (List.mem_cons.mp h).elim (fun e => ha w (List.mem_cons.mpr (Or.inl e))) (fun h => (List.mem_append.mp h).elim (fun h => ha w (List.mem_cons.mpr (Or.inr h))) (hb w))
theorem goodIn_sub {big ws : List Cond} (hm : ∀ w ∈ ws, w ∈ big) (h : ws.all goodWord = true) : GoodIn big ws := fun w hw => ⟨hm w hw, good_of_word (List.all_eq_true.mp h w hw)⟩
/-! ===== END ===== -/

/-! ===== BEGIN exceptions that leave a method, and their catching by the caller (launches without stack traces) ===== -/
section VXA
/-! The laws vx_back, vx_callV, vx_callS, vx_callSW, vx_throw0, vx_throwS follow proofs of the library, with one case more: JvmDerived/Free/Laws.lean (Back.of_free), Shelf42/LK1.lean (callV, callS), Shelf/KitTraced.lean (throwNew0V, throwNewS). -/
/-- where a method has thrown q: the class by its name, the cell, what was written, the world -/
def vx_T (XC : String → State → State → Prop) (st : State) (q : Addr) (t : State) (mc ms : Nat) (free : Addr → Prop) : Prop :=
  ∃ (E : String) (ce : Cell) (L : List Loc), XC E st t ∧ t.heap[q]? = some ce ∧ ce.vm = .none ∧ st.vm.findClass E = some ce.cls ∧ st.WarmedH t.vm ∧ st.sameButNew ({ t with vm := st.vm } : State) L mc ms ∧ ∀ z ∈ L, free z.base
def vx_Q (Qc : Array Value → State → Outcome → State → Prop) (XC : String → State → State → Prop) (mc ms : Nat) (free : Addr → Prop) : Array Value → State → Outcome → State → Prop := fun a st o t =>
  (Qc a st o t ∧ ∃ L, FrameEnd st o t L mc ms ∧ ∀ q ∈ L, free q.base) ∨ ∃ q, o = .threw q ∧ vx_T XC st q t mc ms free
/-- a callee that returns or throws -/
def vx_Met (l : Launch) (y : MethodName) (ws : List Cond) (rm : Room) (Pc : Array Value → State → Prop) (Qc : Array Value → State → Outcome → State → Prop) (XC : String → State → State → Prop) (mc ms : Nat) (free : Addr → Prop) : Prop :=
  MetFree l y (headSpec ws rm) Pc (fun _ _ _ _ _ => True) (vx_Q Qc XC mc ms free)
def vx_Post (XC : String → State → State → Prop) (mc ms : Nat) (free : Addr → Prop) : Pt → Array Value → Addr → Pt → Prop := fun A a q B =>
  ∃ (g : JFrame) (mk : MethodId) (t : State) (L : List Loc) (E : String) (ce : Cell), B.U.heap = t.heap ∧ B.U.vm = t.vm ∧ XC E (A.U.calling g mk a) t ∧ t.heap[q]? = some ce ∧ ce.vm = .none ∧ A.U.vm.findClass E = some ce.cls ∧ B.locs = A.locs ++ L ∧ (∀ z ∈ L, free z.base) ∧ B.cells = A.cells + mc ∧ B.slots = A.slots + ms
def vx_Back (l : Launch) (R : Room) (p : Program) (e : Env) (below : List Frame) (s : State) (sargs : Array Value) (y : MethodName) (len W9 : Nat)
    (Pre : Pt → Array Value → Prop) (Post : Pt → Array Value → Option Value → Pt → Prop) (PostX : Pt → Array Value → Addr → Pt → Prop) : Prop :=
  ∀ (m : MethodId) (meth : Method) (c : Code) (A : Pt) (g : JFrame) (ig : Instr) (mk : MethodId) (a : Array Value),
    Stand p l e R s m sargs below meth c A.U A.locs A.cells A.slots → g.method = m → g.locals.size = c.maxLocals → decode c.code g.pc = .ok (ig, len) →
    2 * g.monitorRoom + (g.stack.map fun v => v.category).sum ≤ W9 → A.U.methodNamed? y = some mk → Pre A a →
    (∃ (v : Option Value) (B : Pt), Stand p l e R s m sargs below meth c B.U B.locs B.cells B.slots ∧ Post A a v B ∧
      Steps p.tables e below (doInvoke e (A.U.setTop g) [] mk a).1 (B.U.setTop { g with pc := g.pc + len, stack := v.toList ++ g.stack })) ∨
    (∃ (q : Addr) (B : Pt), Stand p l e R s m sargs below meth c B.U B.locs B.cells B.slots ∧ PostX A a q B ∧
      Steps p.tables e below (doInvoke e (A.U.setTop g) [] mk a).1 ((B.U.setTop g).pushFrame (.throwing q)))
section Payer
variable {l : Launch} {R : Room} {p : Program} {e : Env} {below : List Frame} {s : State} {sargs : Array Value} {y : MethodName} {len W9 : Nat}
theorem vx_back {ws : List Cond} {rm : Room} {Pc : Array Value → State → Prop} {Qc : Array Value → State → Outcome → State → Prop} {XC : String → State → State → Prop} {mc ms : Nat} {free : Addr → Prop} {bytes : ByteArray} {maxL : Nat} {ret : Option FieldType}
    (hM : vx_Met l y ws rm Pc Qc XC mc ms free) (hblind : FrameBlind Pc) (hrc : rm.cells = mc) (hrs : rm.slots = ms)
    (hframes : rm.frames + 1 ≤ R.frames) (hlocals : W9 + (maxL + 11) + rm.locals ≤ R.locals)
    (hws : ∀ w ∈ ws, ∀ a' U, s.WarmedH U.vm → w.before a' U = true) (hcode : Cond.code y bytes maxL ret ∈ ws) (hinit : ∀ a' U, s.WarmedH U.vm → (Cond.initialized y.cls).before a' U = true) :
    vx_Back l R p e below s sargs y len W9 (PreOf R mc ms Pc) (PostOf Qc mc ms free) (vx_Post XC mc ms free) := by
  intro m meth c A g ig mk a X hg hsize hdg hW hn hp
  have h1 : (headSpec ws rm).pre.before a A.U = true := atoms_intro fun w hw => hws w hw _ _ X.warmed
  have h2 : (Cond.code y bytes maxL ret).before a A.U = true := hws _ hcode _ _ X.warmed
  have h3 : (Cond.initialized y.cls).before a A.U = true := hinit _ _ X.warmed
  have h4 : A.cells + (headSpec ws rm).room.cells ≤ R.cells := by rw [show (headSpec ws rm).room.cells = mc from hrc]; exact hp.1
  have h5 : A.slots + (headSpec ws rm).room.slots ≤ R.slots := by rw [show (headSpec ws rm).room.slots = ms from hrs]; exact hp.2.1
  have hPc : Pc a (A.U.calling g mk a) := hblind _ _ _ _ hp.2.2
  obtain ⟨U, Ls, c0, s0⟩ := A
  dsimp only [Pt.U, Pt.locs, Pt.cells, Pt.slots] at h1 h2 h3 h4 h5 X hn hPc ⊢
  obtain ⟨methY, cY, hmY, hcY, -, hlY, -, -, -, -⟩ := Cond.code_spec hn h2
  obtain ⟨kY, hkY, -⟩ := className_of_methodNamed hn
  have hinitY : kY.init = .initialized := Cond.initialized_spec (findClass_of_methodNamed hn) hkY h3
  have h : At U g.method c below := by rw [hg]; exact X.here
  have hlocals9 : W9 + (maxL + 11) + (headSpec ws rm).room.locals ≤ R.locals := hlocals
  have happ : (headSpec ws rm).appliesLoose y e.platform (U.calling g mk a) = true :=
    Spec.appliesLoose_calling (g := g) h hdg hn hkY hinitY
      (X.room_calling (g := g) (R' := (headSpec ws rm).room) hsize hmY hcY hframes (by rw [hlY]; omega) h4 h5) h1
  obtain ⟨mid, hmid⟩ := h.above
  have hfr : (U.setTop g).frames = (.java g :: mid) ++ below := by rw [State.frames_setTop' g h.top, hmid]; rfl
  obtain ⟨o, s₂, hsteps, -, hend, hq⟩ := Steps.callFree hM p X.admits X.cas X.clock (acts := []) hfr happ hPc trivial
  have hq' : vx_Q Qc XC mc ms free a (U.calling g mk a) o s₂ := hq
  rw [State.frames_setTop' g h.top] at hend
  obtain ⟨g₀, hg0⟩ := Option.isSome_iff_exists.mp h.top
  obtain ⟨r, hr⟩ := State.topJava?_eq_some.mp hg0
  have hr' : (({ U with heap := s₂.heap, slotsUsed := s₂.slotsUsed } : State).setVm s₂.vm).frames = .java g₀ :: r := hr
  rcases hq' with ⟨hqc, L, hfe, hL⟩ | ⟨q, rfl, E, ce, L, hx, hce, hcv, hcl, hW₂, hsm, hL⟩
  · obtain ⟨⟨v, rfl⟩, hW₂, e2, q2, q3, q4, q5, q6⟩ := id hfe
    have e3 : s₂ = ({ (U.calling g mk a).setFrames s₂.frames with heap := s₂.heap, slotsUsed := s₂.slotsUsed } : State).setVm s₂.vm := by
      have : s₂ = ({ s₂ with vm := (U.calling g mk a).vm } : State).setVm s₂.vm := rfl
      rw [e2] at this
      exact this
    obtain ⟨c₂, i₂, len₂, hc₂, hd₂, hf₂⟩ := hend
    have hW' : U.WarmedH s₂.vm := hW₂
    have hcc : c₂ = c := by
      have h1 : s₂.code? g.method = U.code? g.method := by
        rw [State.code?_eq, State.code?_eq, hW'.alike.method?]
      exact Option.some.inj (hc₂.symm.trans (h1.trans h.code))
    subst hcc
    have hlen : len₂ = len := by rw [hdg] at hd₂; cases hd₂; rfl
    subst hlen
    have hs₂ : s₂ = (({ U with heap := s₂.heap, slotsUsed := s₂.slotsUsed } : State).setVm s₂.vm).setTop { g with pc := g.pc + len₂, stack := v.toList ++ g.stack } := by
      refine e3.trans ?_
      rw [hf₂, State.calling_eq h.top, State.setFrames_setFrames, State.setTop_of_frames _ hr', hr]
      rfl
    have hsame : U.sameButNew ({ U with heap := s₂.heap, slotsUsed := s₂.slotsUsed } : State) L mc ms := by
      refine ⟨?_, q2, q3, q4, q5, q6⟩
      obtain ⟨t, ht, -⟩ := State.frames_cons hr
      show ({ U with heap := s₂.heap, slotsUsed := s₂.slotsUsed } : State) = { U.setFrames U.frames with heap := s₂.heap, slotsUsed := s₂.slotsUsed }
      rw [State.setFrames_self ht]
    subst hg
    refine Or.inl ⟨v, ⟨(({ U with heap := s₂.heap, slotsUsed := s₂.slotsUsed } : State).setVm s₂.vm), Ls ++ L, c0 + mc, s0 + ms⟩,
      ⟨X.admits, X.cas, X.clock, X.frames, X.room, X.hears, X.method, X.code, (X.here.setHeapUsed s₂.heap s₂.slotsUsed).setVm hW'.alike, X.tail, State.WarmedH.trans X.warmed hW', X.limits, X.bytes, X.same.trans (hsame.setVm s.vm)⟩,
      ⟨g, mk, s₂, L, rfl, rfl, hqc, rfl, hL, rfl, rfl⟩, ?_⟩
    show Steps p.tables e below _ ((({ U with heap := s₂.heap, slotsUsed := s₂.slotsUsed } : State).setVm s₂.vm).setTop { g with pc := g.pc + len₂, stack := v.toList ++ g.stack })
    rw [← hs₂]
    exact hsteps
  · obtain ⟨e2, q2, q3, q4, q5, q6⟩ := id hsm
    have e3 : s₂ = ({ (U.calling g mk a).setFrames s₂.frames with heap := s₂.heap, slotsUsed := s₂.slotsUsed } : State).setVm s₂.vm := by
      have : s₂ = ({ s₂ with vm := (U.calling g mk a).vm } : State).setVm s₂.vm := rfl
      rw [e2] at this
      exact this
    have hf₂ : s₂.frames = .throwing q :: .java g :: U.frames.tail := hend
    have hW' : U.WarmedH s₂.vm := hW₂
    have hs₂ : s₂ = ((({ U with heap := s₂.heap, slotsUsed := s₂.slotsUsed } : State).setVm s₂.vm).setTop g).pushFrame (.throwing q) := by
      refine e3.trans ?_
      rw [hf₂, State.calling_eq h.top, State.setFrames_setFrames, State.pushFrame, State.frames_setTop _ hr', State.setTop_of_frames _ hr', State.setFrames_setFrames, hr]
      rfl
    have hsame : U.sameButNew ({ U with heap := s₂.heap, slotsUsed := s₂.slotsUsed } : State) L mc ms := by
      refine ⟨?_, q2, q3, q4, q5, q6⟩
      obtain ⟨t, ht, -⟩ := State.frames_cons hr
      show ({ U with heap := s₂.heap, slotsUsed := s₂.slotsUsed } : State) = { U.setFrames U.frames with heap := s₂.heap, slotsUsed := s₂.slotsUsed }
      rw [State.setFrames_self ht]
    subst hg
    refine Or.inr ⟨q, ⟨(({ U with heap := s₂.heap, slotsUsed := s₂.slotsUsed } : State).setVm s₂.vm), Ls ++ L, c0 + mc, s0 + ms⟩,
      ⟨X.admits, X.cas, X.clock, X.frames, X.room, X.hears, X.method, X.code, (X.here.setHeapUsed s₂.heap s₂.slotsUsed).setVm hW'.alike, X.tail, State.WarmedH.trans X.warmed hW', X.limits, X.bytes, X.same.trans (hsame.setVm s.vm)⟩,
      ⟨g, mk, s₂, L, E, ce, rfl, rfl, hx, hce, hcv, hcl, rfl, hL, rfl, rfl⟩, ?_⟩
    show Steps p.tables e below _ (((({ U with heap := s₂.heap, slotsUsed := s₂.slotsUsed } : State).setVm s₂.vm).setTop g).pushFrame (.throwing q))
    rw [← hs₂]
    exact hsteps
end Payer
section Calls
variable {p : Program} {l : Launch} {e : Env} {R : Room} {s : State} {m : MethodId} {args : Array Value} {below : List Frame} {meth : Method} {c : Code} {T : State} {locs : List Loc} {cells slots : Nat}
theorem vx_callV (X : Stand p l e R s m args below meth c T locs cells slots) (hexec : p.tables.exec = Jvm.exec) {own C : String} {index : Nat} {y : MethodName} {bytes : ByteArray} {maxL : Nat} {ret : Option FieldType}
    (hown : s.vm.findClass own = some m.cls) (hlink : (Cond.methodLink own index y).before args s = true) (hinst : (Cond.instanceMethod y).before args s = true) (hsel : (Cond.selects C y y).before args s = true)
    (hcode : (Cond.code y bytes maxL ret).before args s = true) (hy : y.cls ≠ "java/lang/invoke/MethodHandle" ∧ y.cls ≠ "java/lang/invoke/VarHandle")
    {W9 : Nat} {Pre : Pt → Array Value → Prop} {Post : Pt → Array Value → Option Value → Pt → Prop} {PostX : Pt → Array Value → Addr → Pt → Prop} (hK : vx_Back l R p e below s args y 3 W9 Pre Post PostX)
    {b : Addr} {cellB : Cell} (hcell : T.heap[b]? = some cellB) (hobj : cellB.vm.isStatics = false) (hcls : s.vm.findClass C = some cellB.cls)
    {g : JFrame} (hg : g.method = m) (hsize : g.locals.size = c.maxLocals) {argsL rest : List Value} (hlen : ∀ sig, parseMethodDescriptor y.desc = some sig → argsL.length = sig.parameters.length)
    (hstack : g.stack = argsL.reverse ++ .ref b :: rest) (hW : 2 * g.monitorRoom + (rest.map fun v => v.category).sum ≤ W9) (hdg : decode c.code g.pc = .ok (.invokevirtual index, 3))
    (hpre : ∀ vm₁, s.WarmedH vm₁ → Pre ⟨T.setVm vm₁, locs, cells, slots⟩ (Value.ref b :: argsL).toArray) :
    (∃ (v : Option Value) (vm₁ : Vm) (B : Pt), s.WarmedH vm₁ ∧ Stand p l e R s m args below meth c B.U B.locs B.cells B.slots ∧ Post ⟨T.setVm vm₁, locs, cells, slots⟩ (Value.ref b :: argsL).toArray v B ∧
      ∀ target, Steps p.tables e below (B.U.setTop { g with pc := g.pc + 3, stack := v.toList ++ rest }) target → Steps p.tables e below (T.setTop g) target) ∨
    (∃ (q : Addr) (vm₁ : Vm) (B : Pt), s.WarmedH vm₁ ∧ Stand p l e R s m args below meth c B.U B.locs B.cells B.slots ∧ PostX ⟨T.setVm vm₁, locs, cells, slots⟩ (Value.ref b :: argsL).toArray q B ∧
      Steps p.tables e below (T.setTop g) ((B.U.setTop { g with stack := rest }).pushFrame (.throwing q))) := by
  obtain ⟨mk, methM, hnamed, hmethM, hstM, habM⟩ := Cond.instanceMethod_spec hinst
  obtain ⟨methM', cM, hmethM', -, -, -, -, -, -, hsigM⟩ := Cond.code_spec hnamed hcode
  cases hmethM.symm.trans hmethM'
  obtain ⟨c2, r2, m2, q1, q2, q3, q4, kP, hkP, hkPi⟩ := Cond.selects_spec hsel
  cases hcls.symm.trans q1
  cases (State.methodFound?_of_named hnamed hy).symm.trans q2
  cases hnamed.symm.trans q3
  have hselP : selectMethod e.platform s.vm cellB.cls mk = .method mk := by rw [Launch.admits_selectMethod X.admits]; exact q4
  obtain ⟨vm₁, X₁, hstep₁⟩ := X.invokevirtual hexec hown hlink hnamed hmethM hstM hkP hkPi hy (a := b) (cell := cellB) hcell
    (fun z h => by rw [h] at hobj; cases hobj) hselP hmethM habM hkP hkPi (g := g) hg (argsL := argsL) (rest := rest) (hlen _ hsigM) hstack hdg
  rcases hK m meth c ⟨T.setVm vm₁, locs, cells, slots⟩ { g with stack := rest } (.invokevirtual index) mk (Value.ref b :: argsL).toArray X₁ hg hsize hdg hW (X₁.named hnamed) (hpre vm₁ X₁.warmed) with ⟨v, B, X', hpost, hsteps⟩ | ⟨q, B, X', hpost, hsteps⟩
  · exact Or.inl ⟨v, vm₁, B, X₁.warmed, X', hpost, fun target h => hstep₁ _ fun acts => by rw [doInvoke_state]; exact hsteps.trans h⟩
  · exact Or.inr ⟨q, vm₁, B, X₁.warmed, X', hpost, hstep₁ _ fun acts => by rw [doInvoke_state]; exact hsteps⟩
theorem vx_callS (X : Stand p l e R s m args below meth c T locs cells slots) (hexec : p.tables.exec = Jvm.exec) {own : String} {index : Nat} {y : MethodName} {bytes : ByteArray} {maxL : Nat} {ret : Option FieldType}
    (hown : s.vm.findClass own = some m.cls) (hlink : (Cond.methodLink own index y).before args s = true) (hstat : (Cond.static y).before args s = true) (hinit : (Cond.initialized y.cls).before args s = true)
    (hcode : (Cond.code y bytes maxL ret).before args s = true) (hy : y.cls ≠ "java/lang/invoke/MethodHandle" ∧ y.cls ≠ "java/lang/invoke/VarHandle")
    {W9 : Nat} {Pre : Pt → Array Value → Prop} {Post : Pt → Array Value → Option Value → Pt → Prop} {PostX : Pt → Array Value → Addr → Pt → Prop} (hK : vx_Back l R p e below s args y 3 W9 Pre Post PostX)
    {g : JFrame} (hg : g.method = m) (hsize : g.locals.size = c.maxLocals) {argsL rest : List Value} (hlen : ∀ sig, parseMethodDescriptor y.desc = some sig → argsL.length = sig.parameters.length)
    (hstack : g.stack = argsL.reverse ++ rest) (hW : 2 * g.monitorRoom + (rest.map fun v => v.category).sum ≤ W9) (hdg : decode c.code g.pc = .ok (.invokestatic index, 3))
    (hpre : ∀ vm₁, s.WarmedH vm₁ → Pre ⟨T.setVm vm₁, locs, cells, slots⟩ argsL.toArray) :
    (∃ (v : Option Value) (vm₁ : Vm) (B : Pt), s.WarmedH vm₁ ∧ Stand p l e R s m args below meth c B.U B.locs B.cells B.slots ∧ Post ⟨T.setVm vm₁, locs, cells, slots⟩ argsL.toArray v B ∧
      ∀ target, Steps p.tables e below (B.U.setTop { g with pc := g.pc + 3, stack := v.toList ++ rest }) target → Steps p.tables e below (T.setTop g) target) ∨
    (∃ (q : Addr) (vm₁ : Vm) (B : Pt), s.WarmedH vm₁ ∧ Stand p l e R s m args below meth c B.U B.locs B.cells B.slots ∧ PostX ⟨T.setVm vm₁, locs, cells, slots⟩ argsL.toArray q B ∧
      Steps p.tables e below (T.setTop g) ((B.U.setTop { g with stack := rest }).pushFrame (.throwing q))) := by
  obtain ⟨mk, hnamed⟩ := Cond.code_named hcode
  obtain ⟨methM, cM, hmethM, -, -, -, -, -, -, hsigM⟩ := Cond.code_spec hnamed hcode
  have hstatic : methM.isStatic = true := Cond.static_spec hnamed hmethM hstat
  obtain ⟨kP, hkP, -⟩ := className_of_methodNamed hnamed
  have hinitP : kP.init = .initialized := Cond.initialized_spec (findClass_of_methodNamed hnamed) hkP hinit
  obtain ⟨vm₁, X₁, hstep₁⟩ := X.invokestatic hexec hown hlink hnamed hmethM hstatic hkP hinitP hy (g := g) hg (argsL := argsL) (rest := rest) (hlen _ hsigM) hstack hdg
  rcases hK m meth c ⟨T.setVm vm₁, locs, cells, slots⟩ { g with stack := rest } (.invokestatic index) mk argsL.toArray X₁ hg hsize hdg hW (X₁.named hnamed) (hpre vm₁ X₁.warmed) with ⟨v, B, X', hpost, hsteps⟩ | ⟨q, B, X', hpost, hsteps⟩
  · exact Or.inl ⟨v, vm₁, B, X₁.warmed, X', hpost, fun target h => hstep₁ _ fun acts => by rw [doInvoke_state]; exact hsteps.trans h⟩
  · exact Or.inr ⟨q, vm₁, B, X₁.warmed, X', hpost, hstep₁ _ fun acts => by rw [doInvoke_state]; exact hsteps⟩
end Calls
theorem vx_cls {s : State} {T : State} {vm₁ : Vm} {E : String} {k : ClassId} (hW : s.WarmedH vm₁) (h : (T.setVm vm₁).vm.findClass E = some k) : s.vm.findClass E = some k := by
  have h1 : vm₁.findClass E = some k := h
  rw [hW.alike.findClass] at h1
  exact h1
/-- the method's frame g, with q thrown over it -/
def vx_W (p : Program) (l : Launch) (e : Env) (R : Room) (s : State) (m : MethodId) (args : Array Value) (below : List Frame) (meth : Method) (c : Code) (H : Heap) (locs : List Loc) (cells slots : Nat) (Q : State → Prop) (g : JFrame) (q : Addr) : Prop :=
  ∀ T : State, T.heap = H → Stand p l e R s m args below meth c T locs cells slots → ∃ t, Steps p.tables e below ((T.setTop g).pushFrame (.throwing q)) t ∧ Q t
def vx_Run (p : Program) (l : Launch) (e : Env) (R : Room) (s : State) (m : MethodId) (args : Array Value) (below : List Frame) (meth : Method) (c : Code) (H : Heap) (locs : List Loc) (cells slots mc ms : Nat) (g : JFrame) (rest : List Value) (Qa : State → Outcome → State → Prop) (XC : String → State → State → Prop) (free : Addr → Prop) : Prop :=
  ∀ T : State, T.heap = H → Stand p l e R s m args below meth c T locs cells slots →
    (∃ (v : Option Value) (st₀ t T' : State) (L : List Loc), st₀.heap = H ∧ Stand p l e R s m args below meth c T' (locs ++ L) (cells + mc) (slots + ms) ∧ (∀ q ∈ L, free q.base) ∧ T'.heap = t.heap ∧ T'.vm = t.vm ∧ Qa st₀ (.returned v) t ∧
      Goes p e below T g T' { g with pc := g.pc + 3, stack := v.toList ++ rest }) ∨
    (∃ (q : Addr) (st₀ t T' : State) (L : List Loc) (E : String) (ce : Cell), st₀.heap = H ∧ Stand p l e R s m args below meth c T' (locs ++ L) (cells + mc) (slots + ms) ∧ (∀ z ∈ L, free z.base) ∧ T'.heap = t.heap ∧ T'.vm = t.vm ∧ XC E st₀ t ∧ t.heap[q]? = some ce ∧ ce.vm = .none ∧ s.vm.findClass E = some ce.cls ∧
      Steps p.tables e below (T.setTop g) ((T'.setTop { g with stack := rest }).pushFrame (.throwing q)))
def vx_X {S : Type} (px : S → Prop) (B : String → S → State → Prop) (A : Nat → Prop) : String → State → State → Prop := fun E st t => ∃ u : S, px u ∧ B E u t ∧ va_F A st t
section Runs
variable {p : Program} {l : Launch} {e : Env} {R : Room} {s : State} {m : MethodId} {args : Array Value} {below : List Frame} {meth : Method} {c : Code} {H : Heap} {locs : List Loc} {cells slots : Nat}
variable {y : MethodName} {bytes cc : ByteArray} {maxL nL mc ms n index : Nat} {ret : Option FieldType} {ws : List Cond} {rm : Room} {Pc : Array Value → State → Prop} {Qc : Array Value → State → Outcome → State → Prop} {XC : String → State → State → Prop} {free : Addr → Prop} {Ts : List Cond} {own C : String} {b : Addr} {As rest : List Value} {g : JFrame}
theorem vx_callBack (cb : CallB R s args own index y bytes maxL ret ws rm mc ms n) (hM : vx_Met l y ws rm Pc Qc XC mc ms free) (hbl : FrameBlind Pc) : vx_Back l R p e below s args y 3 8 (PreOf R mc ms Pc) (PostOf Qc mc ms free) (vx_Post XC mc ms free) := by
  obtain ⟨hrc, hrs, hfr, hlo, hws, hcw, -, hini, -⟩ := cb
  exact vx_back (bytes := bytes) (maxL := maxL) (ret := ret) hM hbl hrc hrs hfr hlo hws hcw (fun a' U hW => word_at hW (Or.inl (by first | rfl | simp [Cond.onTables, Cond.keeps, Cond.steady])) hini)
theorem vx_runV (S : CallFix p m c cc nL s args Ts own) (hM : vx_Met l y ws rm Pc Qc XC mc ms free) (cw : CallW R s args own C index y bytes maxL ret ws rm mc ms n) (hp : PreV s H C b Pc As)
    (hg : g.method = m) (hn : As.length = n) (hsize : g.locals.size = nL) (hstack : g.stack = As.reverse ++ .ref b :: rest) (hW : 2 * g.monitorRoom + (rest.map fun v => v.category).sum ≤ 8) (hdg : decode cc g.pc = .ok (.invokevirtual index, 3)) (hf : cells + mc ≤ R.cells ∧ slots + ms ≤ R.slots) :
    vx_Run p l e R s m args below meth c H locs cells slots mc ms g rest (Qc (Value.ref b :: As).toArray) XC free := by
  have hK : vx_Back l R p e below s args y 3 8 (PreOf R mc ms Pc) (PostOf Qc mc ms free) (vx_Post XC mc ms free) := vx_callBack cw.1 hM hp.1
  obtain ⟨⟨-, -, -, -, -, -, hcode, -, hy, hlen, hl⟩, hin, hse⟩ := cw
  obtain ⟨hx, hb, hml, ho, -⟩ := S
  obtain ⟨-, ⟨cellB, hcB, hoB, hclB⟩, hPc⟩ := hp
  intro T hT X
  rcases vx_callV X hx (C := C) (bytes := bytes) (maxL := maxL) (ret := ret) ho hl hin hse hcode hy hK (by rw [hT]; exact hcB) hoB hclB hg (hsize.trans hml.symm) (argsL := As) (rest := rest) (fun sig h => hn.trans (hlen sig h)) hstack hW (by rw [hb]; exact hdg)
    (fun vm₁ hW₁ => ⟨hf.1, hf.2, hPc (T.setVm vm₁) hT hW₁⟩) with ⟨v, vm₁, ⟨U', l2, c2, s2⟩, hW₁, X', ⟨g', mk, t, L, e1, e2, hq, h1, hL, h2, h3⟩, st⟩ | ⟨q, vm₁, ⟨U', l2, c2, s2⟩, hW₁, X', ⟨g', mk, t, L, E, ce, e1, e2, hq, hce, hcv, hcl, h1, hL, h2, h3⟩, st⟩
  · dsimp only [Pt.U, Pt.locs, Pt.cells, Pt.slots] at X' e1 e2 h1 h2 h3 st
    subst h1; subst h2; subst h3
    exact Or.inl ⟨v, (T.setVm vm₁).calling g' mk (Value.ref b :: As).toArray, t, U', L, hT, X', hL, e1, e2, hq, st⟩
  · dsimp only [Pt.U, Pt.locs, Pt.cells, Pt.slots] at X' e1 e2 h1 h2 h3 st hcl
    subst h1; subst h2; subst h3
    exact Or.inr ⟨q, (T.setVm vm₁).calling g' mk (Value.ref b :: As).toArray, t, U', L, E, ce, hT, X', hL, e1, e2, hq, hce, hcv, vx_cls hW₁ hcl, st⟩
theorem vx_runS (S : CallFix p m c cc nL s args Ts own) (hM : vx_Met l y ws rm Pc Qc XC mc ms free) (cw : CallB R s args own index y bytes maxL ret ws rm mc ms n ∧ (Cond.static y).before args s = true) (hp : PreS s H Pc As)
    (hg : g.method = m) (hn : As.length = n) (hsize : g.locals.size = nL) (hstack : g.stack = As.reverse ++ rest) (hW : 2 * g.monitorRoom + (rest.map fun v => v.category).sum ≤ 8) (hdg : decode cc g.pc = .ok (.invokestatic index, 3)) (hf : cells + mc ≤ R.cells ∧ slots + ms ≤ R.slots) :
    vx_Run p l e R s m args below meth c H locs cells slots mc ms g rest (Qc As.toArray) XC free := by
  have hK : vx_Back l R p e below s args y 3 8 (PreOf R mc ms Pc) (PostOf Qc mc ms free) (vx_Post XC mc ms free) := vx_callBack cw.1 hM hp.1
  obtain ⟨⟨-, -, -, -, -, -, hcode, hini, hy, hlen, hl⟩, hstt⟩ := cw
  obtain ⟨hx, hb, hml, ho, -⟩ := S
  intro T hT X
  rcases vx_callS X hx (bytes := bytes) (maxL := maxL) (ret := ret) ho hl hstt hini hcode hy hK hg (hsize.trans hml.symm) (argsL := As) (rest := rest) (fun sig h => hn.trans (hlen sig h)) hstack hW (by rw [hb]; exact hdg)
    (fun vm₁ hW₁ => ⟨hf.1, hf.2, hp.2 (T.setVm vm₁) hT hW₁⟩) with ⟨v, vm₁, ⟨U', l2, c2, s2⟩, hW₁, X', ⟨g', mk, t, L, e1, e2, hq, h1, hL, h2, h3⟩, st⟩ | ⟨q, vm₁, ⟨U', l2, c2, s2⟩, hW₁, X', ⟨g', mk, t, L, E, ce, e1, e2, hq, hce, hcv, hcl, h1, hL, h2, h3⟩, st⟩
  · dsimp only [Pt.U, Pt.locs, Pt.cells, Pt.slots] at X' e1 e2 h1 h2 h3 st
    subst h1; subst h2; subst h3
    exact Or.inl ⟨v, (T.setVm vm₁).calling g' mk As.toArray, t, U', L, hT, X', hL, e1, e2, hq, st⟩
  · dsimp only [Pt.U, Pt.locs, Pt.cells, Pt.slots] at X' e1 e2 h1 h2 h3 st hcl
    subst h1; subst h2; subst h3
    exact Or.inr ⟨q, (T.setVm vm₁).calling g' mk As.toArray, t, U', L, E, ce, hT, X', hL, e1, e2, hq, hce, hcv, vx_cls hW₁ hcl, st⟩
end Runs
section Rows
variable {p : Program} {l : Launch} {e : Env} {R : Room} {s : State} {m : MethodId} {args : Array Value} {below : List Frame} {meth : Method} {c : Code} {H : Heap} {locs : List Loc} {cells slots : Nat} {Q : State → Prop}
variable {mc ms : Nat} {free : Addr → Prop} {A0 A1 : Nat → Prop} {H0 : Heap} {a : Array Value} {pc : Nat} {ls : Array Slot} {st0 rest : List Value}
theorem vx_keep {st₀ t T' : State} {L : List Loc} (h0 : st₀.heap = H) (e1 : T'.heap = t.heap) (hS : va_S A0 H0 H locs) (hA : ∀ q, q < H.size → A1 q → A0 q) (hf : ∀ q, free q → A0 q) (hL : ∀ q ∈ L, free q.base) (hF : va_F A1 st₀ t) :
    H.size ≤ T'.heap.size ∧ (∀ q : Nat, q < H.size → ¬ A1 q → T'.heap[q]? = H[q]?) ∧ va_S A0 H0 T'.heap (locs ++ L) := by
  obtain ⟨hz, hk⟩ := hF
  rw [h0] at hz hk
  exact ⟨by rw [e1]; exact hz, fun q h1 h2 => by rw [e1]; exact hk q h1 h2,
    ⟨Nat.le_trans hS.1 (by rw [e1]; exact hz), fun q h1 h2 => by rw [e1, hk q (Nat.lt_of_lt_of_le h1 hS.1) (fun z => h2 (hA q (Nat.lt_of_lt_of_le h1 hS.1) z))]; exact hS.2.1 q h1 h2, fun q hq => by
      rcases List.mem_append.mp hq with h | h
      · exact hS.2.2 q h
      · exact hf _ (hL q h)⟩⟩
theorem vx_calli {S SX : Type} {post : Int32 → S → Prop} {px : SX → Prop} {B : S → State → Prop} {BX : String → SX → State → Prop} {AX : Nat → Prop} (hr : vx_Run p l e R s m args below meth c H locs cells slots mc ms (F0 m pc ls st0) rest (va_Qi post B A1 a) (vx_X px BX AX) free) (hS : va_S A0 H0 H locs) (hA : ∀ q, q < H.size → A1 q → A0 q) (hf : ∀ q, free q → A0 q) (hAX : ∀ q, q < H.size → AX q → A0 q)
    (kx : ∀ (E : String) (ce : Cell) (q9 : Addr) (u : SX) (t : State) (H1 : Heap) (locs1 : List Loc), t.heap = H1 → s.vm.Alike t.vm → px u → BX E u t → H.size ≤ H1.size → (∀ q : Nat, q < H.size → ¬ AX q → H1[q]? = H[q]?) → va_S A0 H0 H1 locs1 → H1[q9]? = some ce → ce.vm = .none → s.vm.findClass E = some ce.cls → vx_W p l e R s m args below meth c H1 locs1 (cells + mc) (slots + ms) Q (F0 m pc ls rest) q9)
    (kk : ∀ (r : Int32) (u : S) (t : State) (H1 : Heap) (locs1 : List Loc), t.heap = H1 → s.vm.Alike t.vm → post r u → B u t → H.size ≤ H1.size → (∀ q : Nat, q < H.size → ¬ A1 q → H1[q]? = H[q]?) → va_S A0 H0 H1 locs1 → W p l e R s m args below meth c H1 locs1 (cells + mc) (slots + ms) Q (F0 m (pc + 3) ls (.int r :: rest))) : W p l e R s m args below meth c H locs cells slots Q (F0 m pc ls st0) := by
  intro T hT X
  rcases hr T hT X with ⟨v, st₀, t, T', L, h0, X', hL, e1, e2, ⟨⟨r, u, hv, hp, hb⟩, hF⟩, st⟩ | ⟨q, st₀, t, T', L, E, ce, h0, X', hL, e1, e2, ⟨u, hp, hb, hF⟩, hce, hcv, hcl, st⟩
  · cases hv
    obtain ⟨k1, k2, k3⟩ := vx_keep h0 e1 hS hA hf hL hF
    obtain ⟨t2, a1, b1⟩ := kk r u t T'.heap (locs ++ L) e1.symm (by rw [← e2]; exact X'.warmed.alike) hp hb k1 k2 k3 T' rfl X'
    exact ⟨t2, st t2 a1, b1⟩
  · obtain ⟨k1, k2, k3⟩ := vx_keep h0 e1 hS hAX hf hL hF
    obtain ⟨t2, a1, b1⟩ := kx E ce q u t T'.heap (locs ++ L) e1.symm (by rw [← e2]; exact X'.warmed.alike) hp hb k1 k2 k3 (by rw [e1]; exact hce) hcv hcl T' rfl X'
    exact ⟨t2, st.trans a1, b1⟩
theorem vx_calll {S SX : Type} {post : Int64 → S → Prop} {px : SX → Prop} {B : S → State → Prop} {BX : String → SX → State → Prop} {AX : Nat → Prop} (hr : vx_Run p l e R s m args below meth c H locs cells slots mc ms (F0 m pc ls st0) rest (va_Ql post B A1 a) (vx_X px BX AX) free) (hS : va_S A0 H0 H locs) (hA : ∀ q, q < H.size → A1 q → A0 q) (hf : ∀ q, free q → A0 q) (hAX : ∀ q, q < H.size → AX q → A0 q)
    (kx : ∀ (E : String) (ce : Cell) (q9 : Addr) (u : SX) (t : State) (H1 : Heap) (locs1 : List Loc), t.heap = H1 → s.vm.Alike t.vm → px u → BX E u t → H.size ≤ H1.size → (∀ q : Nat, q < H.size → ¬ AX q → H1[q]? = H[q]?) → va_S A0 H0 H1 locs1 → H1[q9]? = some ce → ce.vm = .none → s.vm.findClass E = some ce.cls → vx_W p l e R s m args below meth c H1 locs1 (cells + mc) (slots + ms) Q (F0 m pc ls rest) q9)
    (kk : ∀ (r : Int64) (u : S) (t : State) (H1 : Heap) (locs1 : List Loc), t.heap = H1 → s.vm.Alike t.vm → post r u → B u t → H.size ≤ H1.size → (∀ q : Nat, q < H.size → ¬ A1 q → H1[q]? = H[q]?) → va_S A0 H0 H1 locs1 → W p l e R s m args below meth c H1 locs1 (cells + mc) (slots + ms) Q (F0 m (pc + 3) ls (.long r :: rest))) : W p l e R s m args below meth c H locs cells slots Q (F0 m pc ls st0) := by
  intro T hT X
  rcases hr T hT X with ⟨v, st₀, t, T', L, h0, X', hL, e1, e2, ⟨⟨r, u, hv, hp, hb⟩, hF⟩, st⟩ | ⟨q, st₀, t, T', L, E, ce, h0, X', hL, e1, e2, ⟨u, hp, hb, hF⟩, hce, hcv, hcl, st⟩
  · cases hv
    obtain ⟨k1, k2, k3⟩ := vx_keep h0 e1 hS hA hf hL hF
    obtain ⟨t2, a1, b1⟩ := kk r u t T'.heap (locs ++ L) e1.symm (by rw [← e2]; exact X'.warmed.alike) hp hb k1 k2 k3 T' rfl X'
    exact ⟨t2, st t2 a1, b1⟩
  · obtain ⟨k1, k2, k3⟩ := vx_keep h0 e1 hS hAX hf hL hF
    obtain ⟨t2, a1, b1⟩ := kx E ce q u t T'.heap (locs ++ L) e1.symm (by rw [← e2]; exact X'.warmed.alike) hp hb k1 k2 k3 (by rw [e1]; exact hce) hcv hcl T' rfl X'
    exact ⟨t2, st.trans a1, b1⟩
theorem vx_callf {S SX : Type} {post : UInt32 → S → Prop} {px : SX → Prop} {B : S → State → Prop} {BX : String → SX → State → Prop} {AX : Nat → Prop} (hr : vx_Run p l e R s m args below meth c H locs cells slots mc ms (F0 m pc ls st0) rest (va_Qf post B A1 a) (vx_X px BX AX) free) (hS : va_S A0 H0 H locs) (hA : ∀ q, q < H.size → A1 q → A0 q) (hf : ∀ q, free q → A0 q) (hAX : ∀ q, q < H.size → AX q → A0 q)
    (kx : ∀ (E : String) (ce : Cell) (q9 : Addr) (u : SX) (t : State) (H1 : Heap) (locs1 : List Loc), t.heap = H1 → s.vm.Alike t.vm → px u → BX E u t → H.size ≤ H1.size → (∀ q : Nat, q < H.size → ¬ AX q → H1[q]? = H[q]?) → va_S A0 H0 H1 locs1 → H1[q9]? = some ce → ce.vm = .none → s.vm.findClass E = some ce.cls → vx_W p l e R s m args below meth c H1 locs1 (cells + mc) (slots + ms) Q (F0 m pc ls rest) q9)
    (kk : ∀ (r : UInt32) (u : S) (t : State) (H1 : Heap) (locs1 : List Loc), t.heap = H1 → s.vm.Alike t.vm → post r u → B u t → H.size ≤ H1.size → (∀ q : Nat, q < H.size → ¬ A1 q → H1[q]? = H[q]?) → va_S A0 H0 H1 locs1 → W p l e R s m args below meth c H1 locs1 (cells + mc) (slots + ms) Q (F0 m (pc + 3) ls (.float r :: rest))) : W p l e R s m args below meth c H locs cells slots Q (F0 m pc ls st0) := by
  intro T hT X
  rcases hr T hT X with ⟨v, st₀, t, T', L, h0, X', hL, e1, e2, ⟨⟨r, u, hv, hp, hb⟩, hF⟩, st⟩ | ⟨q, st₀, t, T', L, E, ce, h0, X', hL, e1, e2, ⟨u, hp, hb, hF⟩, hce, hcv, hcl, st⟩
  · cases hv
    obtain ⟨k1, k2, k3⟩ := vx_keep h0 e1 hS hA hf hL hF
    obtain ⟨t2, a1, b1⟩ := kk r u t T'.heap (locs ++ L) e1.symm (by rw [← e2]; exact X'.warmed.alike) hp hb k1 k2 k3 T' rfl X'
    exact ⟨t2, st t2 a1, b1⟩
  · obtain ⟨k1, k2, k3⟩ := vx_keep h0 e1 hS hAX hf hL hF
    obtain ⟨t2, a1, b1⟩ := kx E ce q u t T'.heap (locs ++ L) e1.symm (by rw [← e2]; exact X'.warmed.alike) hp hb k1 k2 k3 (by rw [e1]; exact hce) hcv hcl T' rfl X'
    exact ⟨t2, st.trans a1, b1⟩
theorem vx_calld {S SX : Type} {post : UInt64 → S → Prop} {px : SX → Prop} {B : S → State → Prop} {BX : String → SX → State → Prop} {AX : Nat → Prop} (hr : vx_Run p l e R s m args below meth c H locs cells slots mc ms (F0 m pc ls st0) rest (va_Qd post B A1 a) (vx_X px BX AX) free) (hS : va_S A0 H0 H locs) (hA : ∀ q, q < H.size → A1 q → A0 q) (hf : ∀ q, free q → A0 q) (hAX : ∀ q, q < H.size → AX q → A0 q)
    (kx : ∀ (E : String) (ce : Cell) (q9 : Addr) (u : SX) (t : State) (H1 : Heap) (locs1 : List Loc), t.heap = H1 → s.vm.Alike t.vm → px u → BX E u t → H.size ≤ H1.size → (∀ q : Nat, q < H.size → ¬ AX q → H1[q]? = H[q]?) → va_S A0 H0 H1 locs1 → H1[q9]? = some ce → ce.vm = .none → s.vm.findClass E = some ce.cls → vx_W p l e R s m args below meth c H1 locs1 (cells + mc) (slots + ms) Q (F0 m pc ls rest) q9)
    (kk : ∀ (r : UInt64) (u : S) (t : State) (H1 : Heap) (locs1 : List Loc), t.heap = H1 → s.vm.Alike t.vm → post r u → B u t → H.size ≤ H1.size → (∀ q : Nat, q < H.size → ¬ A1 q → H1[q]? = H[q]?) → va_S A0 H0 H1 locs1 → W p l e R s m args below meth c H1 locs1 (cells + mc) (slots + ms) Q (F0 m (pc + 3) ls (.double r :: rest))) : W p l e R s m args below meth c H locs cells slots Q (F0 m pc ls st0) := by
  intro T hT X
  rcases hr T hT X with ⟨v, st₀, t, T', L, h0, X', hL, e1, e2, ⟨⟨r, u, hv, hp, hb⟩, hF⟩, st⟩ | ⟨q, st₀, t, T', L, E, ce, h0, X', hL, e1, e2, ⟨u, hp, hb, hF⟩, hce, hcv, hcl, st⟩
  · cases hv
    obtain ⟨k1, k2, k3⟩ := vx_keep h0 e1 hS hA hf hL hF
    obtain ⟨t2, a1, b1⟩ := kk r u t T'.heap (locs ++ L) e1.symm (by rw [← e2]; exact X'.warmed.alike) hp hb k1 k2 k3 T' rfl X'
    exact ⟨t2, st t2 a1, b1⟩
  · obtain ⟨k1, k2, k3⟩ := vx_keep h0 e1 hS hAX hf hL hF
    obtain ⟨t2, a1, b1⟩ := kx E ce q u t T'.heap (locs ++ L) e1.symm (by rw [← e2]; exact X'.warmed.alike) hp hb k1 k2 k3 (by rw [e1]; exact hce) hcv hcl T' rfl X'
    exact ⟨t2, st.trans a1, b1⟩
theorem vx_callv {S SX : Type} {post : S → Prop} {px : SX → Prop} {B : S → State → Prop} {BX : String → SX → State → Prop} {AX : Nat → Prop} (hr : vx_Run p l e R s m args below meth c H locs cells slots mc ms (F0 m pc ls st0) rest (va_Qv post B A1 a) (vx_X px BX AX) free) (hS : va_S A0 H0 H locs) (hA : ∀ q, q < H.size → A1 q → A0 q) (hf : ∀ q, free q → A0 q) (hAX : ∀ q, q < H.size → AX q → A0 q)
    (kx : ∀ (E : String) (ce : Cell) (q9 : Addr) (u : SX) (t : State) (H1 : Heap) (locs1 : List Loc), t.heap = H1 → s.vm.Alike t.vm → px u → BX E u t → H.size ≤ H1.size → (∀ q : Nat, q < H.size → ¬ AX q → H1[q]? = H[q]?) → va_S A0 H0 H1 locs1 → H1[q9]? = some ce → ce.vm = .none → s.vm.findClass E = some ce.cls → vx_W p l e R s m args below meth c H1 locs1 (cells + mc) (slots + ms) Q (F0 m pc ls rest) q9)
    (kk : ∀ (u : S) (t : State) (H1 : Heap) (locs1 : List Loc), t.heap = H1 → s.vm.Alike t.vm → post u → B u t → H.size ≤ H1.size → (∀ q : Nat, q < H.size → ¬ A1 q → H1[q]? = H[q]?) → va_S A0 H0 H1 locs1 → W p l e R s m args below meth c H1 locs1 (cells + mc) (slots + ms) Q (F0 m (pc + 3) ls (rest))) : W p l e R s m args below meth c H locs cells slots Q (F0 m pc ls st0) := by
  intro T hT X
  rcases hr T hT X with ⟨v, st₀, t, T', L, h0, X', hL, e1, e2, ⟨⟨u, hv, hp, hb⟩, hF⟩, st⟩ | ⟨q, st₀, t, T', L, E, ce, h0, X', hL, e1, e2, ⟨u, hp, hb, hF⟩, hce, hcv, hcl, st⟩
  · cases hv
    obtain ⟨k1, k2, k3⟩ := vx_keep h0 e1 hS hA hf hL hF
    obtain ⟨t2, a1, b1⟩ := kk u t T'.heap (locs ++ L) e1.symm (by rw [← e2]; exact X'.warmed.alike) hp hb k1 k2 k3 T' rfl X'
    exact ⟨t2, st t2 a1, b1⟩
  · obtain ⟨k1, k2, k3⟩ := vx_keep h0 e1 hS hAX hf hL hF
    obtain ⟨t2, a1, b1⟩ := kx E ce q u t T'.heap (locs ++ L) e1.symm (by rw [← e2]; exact X'.warmed.alike) hp hb k1 k2 k3 (by rw [e1]; exact hce) hcv hcl T' rfl X'
    exact ⟨t2, st.trans a1, b1⟩
/-- caught by the row x of this method's table; the rows ahead don't take it -/
theorem vx_catch {own name : String} {E : String} {ce : Cell} {q : Addr} (hown : s.vm.findClass own = some m.cls) (pre : List ExceptionTableEntry) (x : ExceptionTableEntry) (suf : List ExceptionTableEntry) (hsplit : c.exceptionTable.toList = pre ++ x :: suf)
    (hpass : ∀ z ∈ pre, covers z pc = false ∨ (z.catchType ≠ 0 ∧ ∃ nm : String, (Cond.classLink own z.catchType nm).before args s = true ∧ va_Nc E nm s)) (hx : covers x pc = true) (h0 : x.catchType ≠ 0)
    (hlink : (Cond.classLink own x.catchType name).before args s = true) (hcast : (Cond.castable E name).before args s = true) (hcell : H[q]? = some ce) (hv : ce.vm = .none) (hcl : s.vm.findClass E = some ce.cls)
    (kk : W p l e R s m args below meth c H locs cells slots Q (F0 m x.handlerPc ls [.ref q])) : vx_W p l e R s m args below meth c H locs cells slots Q (F0 m pc ls rest) q := by
  intro T hT X
  have hpl : e.platform.magicAccessors = ({} : Platform).magicAccessors := by rw [X.admits.platform]
  obtain ⟨c3, c4, hc3, hc4, hasg⟩ := Cond.castable_spec hcast
  cases Option.some.inj (hc3.symm.trans hcl)
  obtain ⟨c5, hc5, hcl5⟩ := Cond.classLink_spec hown hlink e.platform hpl
  cases Option.some.inj (hc4.symm.trans hc5)
  obtain ⟨vm', X', st⟩ := X.thenCaughtThrough q (g := F0 m pc ls rest) rfl (Steps.refl _) (by rw [hT]; exact hcell) (by rw [hv]; rfl) (by obtain ⟨k9, h9, -⟩ := Vm.findClass_spec hcl; exact ⟨k9, h9⟩) pre x suf hsplit
    (fun z hz => by
      rcases hpass z hz with h | ⟨hz0, nm, hl1, hn1⟩
      · exact Or.inl h
      · obtain ⟨c6, hc6, hcl6⟩ := Cond.classLink_spec hown hl1 e.platform hpl
        obtain ⟨a8, b8, h1, h2, h3⟩ := hn1
        cases Option.some.inj (h1.symm.trans hcl)
        cases Option.some.inj (h2.symm.trans hc6)
        exact Or.inr ⟨hz0, _, hcl6, h3⟩) hx (Or.inr ⟨h0, c4, hcl5, hasg⟩)
  obtain ⟨t, a1, b1⟩ := kk (T.setVm vm') hT X'
  exact ⟨t, st.trans a1, b1⟩
end Rows
section Ends
variable {p : Program} {l : Launch} {e : Env} {R : Room} {s : State} {m : MethodId} {args : Array Value} {below : List Frame} {meth : Method} {c : Code} {H : Heap} {locs : List Loc} {cells slots : Nat} {Q : State → Prop}
variable {mc ms : Nat} {free : Addr → Prop} {A0 A1 : Nat → Prop} {H0 : Heap} {a : Array Value} {ls : Array Slot} {st0 rest : List Value}
variable {Qc : Array Value → State → Outcome → State → Prop} {XC : String → State → State → Prop}
/-- what a body that may throw owes at its end -/
def vx_MQ (below : List Frame) (Qc : Array Value → State → Outcome → State → Prop) (XC : String → State → State → Prop) (a : Array Value) (s : State) (mc ms : Nat) (free : Addr → Prop) : State → Prop := fun t =>
  ∃ o, t.status = .running ∧ Ended t below o ∧ vx_Q Qc XC mc ms free a s o t
theorem vx_ret {g : JFrame} {mc ms : Nat} (k : W p l e R s m args below meth c H locs cells slots (MQ below Qc args s mc ms free) g) : W p l e R s m args below meth c H locs cells slots (vx_MQ below Qc XC args s mc ms free) g := by
  intro T hT X
  obtain ⟨t, a1, o, b1, b2, b3, b4⟩ := k T hT X
  exact ⟨t, a1, o, b1, b2, Or.inl ⟨b3, b4⟩⟩
/-- not caught here: it goes on to the caller -/
theorem vx_widen {g : JFrame} {q : Addr} {k n : Nat} (h1 : cells ≤ k) (h2 : slots ≤ n) (kk : vx_W p l e R s m args below meth c H locs k n Q g q) : vx_W p l e R s m args below meth c H locs cells slots Q g q := fun T hT X => kk T hT (stand_widen X h1 h2)
theorem vx_out {pc : Nat} {E : String} {ce : Cell} {q : Addr} {mc ms : Nat} (hout : ∀ x ∈ c.exceptionTable.toList, covers x pc = false) (hlocks : meth.locks = false) (hcell : H[q]? = some ce) (hv : ce.vm = .none) (hcl : s.vm.findClass E = some ce.cls)
    (hx : ∀ t : State, t.heap = H → s.vm.Alike t.vm → XC E s t) (hf : ∀ z ∈ locs, free z.base) (hc : cells ≤ mc) (hs : slots ≤ ms) :
    vx_W p l e R s m args below meth c H locs cells slots (vx_MQ below Qc XC args s mc ms free) (F0 m pc ls rest) q := by
  intro T hT X
  obtain ⟨st1, hrun, hend, hW, hsm⟩ := X.leaveThrown q (g := F0 m pc ls rest) rfl rfl rfl hout hlocks
  have hcell9 : (T.setFrames (.throwing q :: below)).heap[q]? = some ce := by
    show T.heap[q]? = some ce
    rw [hT]; exact hcell
  exact ⟨_, st1, .threw q, hrun, hend, Or.inr ⟨q, rfl, E, ce, locs, hx _ hT hW.alike, hcell9, hv, hcl, hW, hsm.mono hc hs, hf⟩⟩
theorem vx_frame {U : State} {k n : Nat} (h : s.sameButNew ({ U with vm := s.vm } : State) locs k n) : s.heap.size ≤ U.heap.size ∧ ∀ q : Nat, q < s.heap.size → (∀ z ∈ locs, z.base ≠ q) → U.heap[q]? = s.heap[q]? := by
  obtain ⟨-, h2, -, -, -, h6⟩ := h
  refine ⟨h2, fun q hq hz => ?_⟩
  obtain ⟨c9, e1, e2, e3, e4⟩ := h6 q _ (Array.getElem?_eq_getElem hq)
  have hs : c9.slots = (s.heap[q]).slots := Array.ext_getElem? fun i => e4 i fun hm => hz _ hm rfl
  have h9 : c9 = s.heap[q] := by
    rw [hs] at e2
    exact e2
  have e5 : U.heap[q]? = some c9 := e1
  rw [e5, h9, Array.getElem?_eq_getElem hq]
/-- the words of a throw but the four that speak of the heap -/
def vx_no (w : Cond) : Bool := decide (w ≠ .isRef (.static Bundle.tN "UNASSIGNED_STACK" Bundle.steD)) && decide (w ≠ .isRef (.static Bundle.tN "SUPPRESSED_SENTINEL" Bundle.listD)) && decide (w ≠ .laysStatic Bundle.tN "UNASSIGNED_STACK" Bundle.steD) && decide (w ≠ .laysStatic Bundle.tN "SUPPRESSED_SENTINEL" Bundle.listD)
def vx_at0 (own : String) (ic : Nat) (X : String) (names : List String) : List Cond := (Bundle.ownAtoms0 own ic X names).filter vx_no
def vx_atS (own : String) (ic : Nat) (X : String) (names : List String) : List Cond := (Bundle.ownAtoms own ic X names).filter vx_no
/-- a word that the tables alone decide, or a good one -/
def vx_ot (w : Cond) : Bool := w.onTables || goodWord w
theorem vx_ot_at {args a' : Array Value} {s U : State} {w : Cond} (hW : s.WarmedH U.vm) (hvm : s.vm = U.vm) (hg : vx_ot w = true) (h : w.before args s = true) : w.before a' U = true := by
  simp only [vx_ot, Bool.or_eq_true] at hg
  rcases hg with hg | hg
  · exact va_tabs hg hvm h
  · exact word_at hW (good_of_word hg) h
/-- a list's words: the good ones out of the method's own list, the others by premises of their own -/
theorem vx_hat {args : Array Value} {s : State} {L B : List Cond} (h1 : ∀ w ∈ L.filter goodWord, w.before args s = true) (h2 : ∀ w ∈ L.filter (fun w => !goodWord w), w ∈ B) (h3 : ∀ w ∈ B, w.before args s = true) : ∀ w ∈ L, w.before args s = true := by
  intro w hw
  by_cases g : goodWord w = true
  · exact h1 w (List.mem_filter.mpr ⟨hw, g⟩)
  · refine h3 w (h2 w (List.mem_filter.mpr ⟨hw, ?_⟩))
    show (!goodWord w) = true
    cases hgw : goodWord w
    · rfl
    · exact absurd hgw g
theorem vx_c {args : Array Value} {s : State} {w : Cond} {B : List Cond} (h : w.before args s = true) (t : ∀ w ∈ B, w.before args s = true) : ∀ w' ∈ w :: B, w'.before args s = true := fun w' h' => (List.mem_cons.mp h').elim (fun e => by rw [e]; exact h) (t w')
theorem vx_n {args : Array Value} {s : State} : ∀ w ∈ ([] : List Cond), w.before args s = true := fun _ h => nomatch h
theorem vx_own {args : Array Value} {s : State} {L : List Cond} (h1 : ∀ w ∈ L.filter vx_no, w.before args s = true)
    (hU : (Cond.isRef (.static Bundle.tN "UNASSIGNED_STACK" Bundle.steD)).before args s = true) (hN : (Cond.isRef (.static Bundle.tN "SUPPRESSED_SENTINEL" Bundle.listD)).before args s = true)
    (lU : (Cond.laysStatic Bundle.tN "UNASSIGNED_STACK" Bundle.steD).before args s = true) (lN : (Cond.laysStatic Bundle.tN "SUPPRESSED_SENTINEL" Bundle.listD).before args s = true) : ∀ w ∈ L, w.before args s = true := by
  intro w hw
  by_cases e1 : w = .isRef (.static Bundle.tN "UNASSIGNED_STACK" Bundle.steD)
  · rw [e1]; exact hU
  · by_cases e2 : w = .isRef (.static Bundle.tN "SUPPRESSED_SENTINEL" Bundle.listD)
    · rw [e2]; exact hN
    · by_cases e3 : w = .laysStatic Bundle.tN "UNASSIGNED_STACK" Bundle.steD
      · rw [e3]; exact lU
      · by_cases e4 : w = .laysStatic Bundle.tN "SUPPRESSED_SENTINEL" Bundle.listD
        · rw [e4]; exact lN
        · exact h1 w (List.mem_filter.mpr ⟨hw, by unfold vx_no; rw [decide_eq_true e1, decide_eq_true e2, decide_eq_true e3, decide_eq_true e4]; rfl⟩)
/-- where a static field lies, its class's statics cell in H -/
def vx_L (C n d : String) (A : Nat → Prop) (U : State) (H : Heap) : Prop := ∃ (c : ClassId) (k : Class) (i : Nat) (f : Field) (a : Nat) (cell : Cell), U.vm.findClass C = some c ∧ U.fieldFound? C n d = some (c, k, i, f) ∧ f.isStatic = true ∧ k.statics = some a ∧ H[a]? = some cell ∧ cell.vm.isStatics = true ∧ cell.cls = c ∧ f.slot < cell.slots.size ∧ k.staticTypes[f.slot]? = some f.type ∧ ¬ A a
theorem vx_L.moved {C n d : String} {A : Nat → Prop} {u U : State} {H : Heap} (hvm : u.vm.Alike U.vm) (h : vx_L C n d A u H) : vx_L C n d A U H := by
  obtain ⟨c, k, i, f, a, cell, h1, h2, h3, h4, h5, h6, h7, h8, h9, h10⟩ := h
  obtain ⟨k', hi', he⟩ := State.fieldFound?_setVm hvm h2
  exact ⟨c, k', i, f, a, cell, by rw [hvm.findClass]; exact h1, hi', h3, by rw [he]; exact h4, h5, h6, h7, h8, by rw [he]; exact h9, h10⟩
theorem vx_L.kept {C n d : String} {A : Nat → Prop} {U : State} {H H1 : Heap} (h : vx_L C n d A U H) (hq : ∀ a : Nat, a < H.size → ¬ A a → H1[a]? = H[a]?) : vx_L C n d A U H1 := by
  obtain ⟨c, k, i, f, a, cell, h1, h2, h3, h4, h5, h6, h7, h8, h9, h10⟩ := h
  exact ⟨c, k, i, f, a, cell, h1, h2, h3, h4, by rw [hq a (Array.getElem?_eq_some_iff.mp h5).1 h10]; exact h5, h6, h7, h8, h9, h10⟩
theorem vx_L.narrow {C n d : String} {A B : Nat → Prop} {U : State} {H : Heap} (h : vx_L C n d A U H) (hAB : ∀ q, B q → A q) : vx_L C n d B U H := by
  obtain ⟨c, k, i, f, a, cell, h1, h2, h3, h4, h5, h6, h7, h8, h9, h10⟩ := h
  exact ⟨c, k, i, f, a, cell, h1, h2, h3, h4, h5, h6, h7, h8, h9, fun z => h10 (hAB _ z)⟩
theorem vx_L.word {C n d : String} {A : Nat → Prop} {s : State} {args : Array Value} (h : vx_L C n d A s s.heap) : (Cond.laysStatic C n d).before args s = true := by
  obtain ⟨c, k, i, f, a, cell, h1, h2, h3, h4, h5, h6, h7, h8, h9, -⟩ := h
  show (Cond.laysStatic C n d).holds args s none s [] = true
  exact Cond.laysStatic_of h1 h2 h3 h4 h5 h6 h7 h8 h9
/-- .. and what it holds: null or some reference -/
def vx_Zq (C n d : String) (A : Nat → Prop) (U : State) (H : Heap) : Prop := va_Zq C n d A U H ∧ vx_L C n d A U H
theorem vx_Zq.moved {C n d : String} {A : Nat → Prop} {u U : State} {H : Heap} (hvm : u.vm.Alike U.vm) (h : vx_Zq C n d A u H) : vx_Zq C n d A U H := ⟨va_Zq.moved hvm h.1, vx_L.moved hvm h.2⟩
theorem vx_Zq.kept {C n d : String} {A : Nat → Prop} {U : State} {H H1 : Heap} (h : vx_Zq C n d A U H) (hq : ∀ a : Nat, a < H.size → ¬ A a → H1[a]? = H[a]?) : vx_Zq C n d A U H1 := ⟨va_Zq.kept h.1 hq, vx_L.kept h.2 hq⟩
theorem vx_Zq.narrow {C n d : String} {A B : Nat → Prop} {U : State} {H : Heap} (h : vx_Zq C n d A U H) (hAB : ∀ q, B q → A q) : vx_Zq C n d B U H := ⟨va_Zq.narrow h.1 hAB, vx_L.narrow h.2 hAB⟩
theorem vx_Zqof {args : Array Value} {s : State} {C n d : String} {A : Nat → Prop} (hl : (Cond.laysStatic C n d).before args s = true) (hini : (Cond.initialized C).before args s = true) (h : (Cond.isRef (.static C n d)).before args s = true) (hA : ∀ a : Nat, a < s.heap.size → ¬ A a) : vx_Zq C n d A s s.heap := by
  refine ⟨va_Zqof hl hini h hA, ?_⟩
  obtain ⟨c, k, i, f, a, cell, h1, h2, h3, h4, h5, h6, h7, h8, h9⟩ := Cond.laysStatic_spec hl
  exact ⟨c, k, i, f, a, cell, h1, h2, h3, h4, h5, h6, h7, h8, h9, hA a (Array.getElem?_eq_some_iff.mp h5).1⟩
theorem vx_isRef {C n d : String} {v : Value} {A : Nat → Prop} {s : State} {args : Array Value} (h : va_Z C n d v A s s.heap) (hv : v.isRef = true) : (Cond.isRef (.static C n d)).before args s = true := by
  obtain ⟨cf, kf, fi, f, a, cell, h1, h2, h3, h4, h5, h6, h7, -⟩ := h
  have he : (Term.static C n d).eval args s none [] s = some v := by
    simp [Term.eval, State.fieldNamed?, h1, h2, h4, h5, h6, h7]
  simp only [Cond.before, Cond.holds, Cond.value, he]
  cases v <;> simp_all [Value.isRef]
theorem vx_isRefq {C n d : String} {A : Nat → Prop} {s : State} {args : Array Value} (h : va_Zq C n d A s s.heap) : (Cond.isRef (.static C n d)).before args s = true := by
  rcases h with h | ⟨t, h⟩
  · exact vx_isRef h rfl
  · exact vx_isRef h rfl
/-- the same frame, seen from here: as if the method were called anew in this heap -/
theorem vx_rebase {T : State} (X : Stand p l e R s m args below meth c T locs cells slots) {R' : Room} (hf : R'.frames ≤ R.frames) (hl : R'.locals ≤ R.locals) (hc : cells + R'.cells ≤ R.cells) (hs : slots + R'.slots ≤ R.slots) :
    Stand p l e R' ((T.setVm s.vm).setFrames (.invoking m args :: below)) m args below meth c T [] 0 0 := by
  have htop : (T.setVm s.vm).topJava?.isSome := X.here.top
  have hF : ((T.setVm s.vm).setFrames (.invoking m args :: below)).frames = .invoking m args :: below := State.frames_setFrames _ (State.cur_lt_of_top htop)
  obtain ⟨g₀, hg0⟩ := Option.isSome_iff_exists.mp htop
  obtain ⟨r, hr⟩ := State.topJava?_eq_some.mp hg0
  have hl9 : e.platform.stackLimits (T.setVm s.vm).me = e.platform.stackLimits s.me := X.limits
  have hb9 : (T.setVm s.vm).me.stackBytes = s.me.stackBytes := X.bytes
  refine ⟨X.admits, X.cas, X.clock, hF, ?_, X.hears, X.method, X.code, X.here, X.tail, X.warmed, ?_, ?_, ?_⟩
  · have h := X.room
    have hU : ((T.setVm s.vm).setFrames (.invoking m args :: below)).localsInUse = s.localsInUse := by
      rw [State.localsInUse_invoking hF (meth := meth) (c := c) X.method X.code, State.localsInUse_invoking X.frames X.method X.code]
    simp only [State.hasRoom, Bool.and_eq_true, decide_eq_true_eq] at h ⊢
    obtain ⟨⟨⟨⟨h1, h2, h3, h4, h5, h6⟩, h7⟩, h8⟩, h9⟩ := h
    rw [X.frames, List.length_cons] at h2 h3
    have q1 := X.heapSize
    have q2 := X.used
    simp only [hF, hU, List.length_cons, State.stackLimits_setFrames, State.stackBytes_setFrames, hl9, hb9]
    refine ⟨⟨⟨⟨by omega, by omega, by omega, by omega, by omega, h6⟩, ?_⟩, ?_⟩, X.book⟩
    · show T.heap.size + R'.cells ≤ e.platform.maxCells
      omega
    · show T.slotsUsed + R'.slots ≤ e.platform.maxSlots
      omega
  · rw [State.stackLimits_setFrames]; rfl
  · rw [State.stackBytes_setFrames]; rfl
  · refine ⟨?_, Nat.le_refl _, Nat.le_refl _, ?_, ?_, fun a c9 h9 => ⟨c9, h9, rfl, rfl, fun _ _ => rfl⟩⟩
    · obtain ⟨t, ht, -⟩ := State.frames_cons hr
      show T.setVm s.vm = { ((T.setVm s.vm).setFrames (.invoking m args :: below)).setFrames (T.setVm s.vm).frames with heap := T.heap, slotsUsed := T.slotsUsed }
      rw [State.setFrames_setFrames, State.setFrames_self ht]
      rfl
    · show T.slotsUsed = T.slotsUsed + ((T.heap.toList.drop T.heap.size).map (·.slots.size)).sum
      rw [List.drop_eq_nil_of_le (Nat.le_of_eq Array.length_toList)]
      rfl
    · show ((T.heap.toList.drop T.heap.size).map (·.slots.size)).sum ≤ 0
      rw [List.drop_eq_nil_of_le (Nat.le_of_eq Array.length_toList)]
      exact Nat.le_refl _
/-- 'throw new E()': new; dup; invokespecial; athrow -/
theorem vx_throw0 {cc : ByteArray} {pc : Nat} (hexec : p.tables.exec = Jvm.exec) (hb : c.code = cc) (hl : l.stackTraces = false) {own cls : String} {names : List String} {ik ic mc ms : Nat} {A : Nat → Prop}
    (hown : s.vm.findClass own = some m.cls) (hcls : Bundle.fit cls = true) (hnames : ∀ n ∈ names, Bundle.fit n = true)
    (hk : (Cond.classLink own ik cls).before args s = true) (hini : (Cond.initialized cls).before args s = true) (hat : ∀ w ∈ vx_at0 own ic cls names, w.before args s = true)
    (hgood : ∀ w ∈ Cond.classLink own ik cls :: Cond.initialized cls :: vx_at0 own ic cls names, vx_ot w = true)
    (hU : vx_Zq Bundle.tN "UNASSIGNED_STACK" Bundle.steD A s s.heap) (hN : vx_Zq Bundle.tN "SUPPRESSED_SENTINEL" Bundle.listD A s s.heap) (hS : va_S A s.heap H locs) (hsize : ls.size = c.maxLocals)
    (d0 : decode cc pc = .ok (.new ik, 3)) (d3 : decode cc (pc + 3) = .ok (.dup, 1)) (d4 : decode cc (pc + 4) = .ok (.invokespecial ic, 3)) (d7 : decode cc (pc + 7) = .ok (.athrow, 1))
    (hout : ∀ x ∈ c.exceptionTable.toList, covers x (pc + 7) = false)
    (hRframes : names.length + 3 < R.frames) (hRlocals : (rest.map fun v => v.category).sum + (13 * (names.length + 1) + 42) ≤ R.locals) (hRcells : cells + 1 ≤ R.cells) (hRslots : slots + 6 ≤ R.slots) (hlocks : meth.locks = false)
    (hx : ∀ t : State, s.vm.Alike t.vm → H.size ≤ t.heap.size → (∀ q : Nat, q < H.size → t.heap[q]? = H[q]?) → XC cls s t)
    (hf : ∀ z ∈ locs, free z.base) (hc : cells + 1 ≤ mc) (hs : slots + 6 ≤ ms) :
    W p l e R s m args below meth c H locs cells slots (vx_MQ below Qc XC args s mc ms free) (F0 m pc ls rest) := by
  intro T hT X
  have htr : e.platform.stackTraces = false := (show e.platform.stackTraces = l.stackTraces by rw [X.admits.platform]).trans hl
  have Y := vx_rebase X (R' := { frames := R.frames, locals := R.locals, cells := 1, slots := 6 }) (Nat.le_refl _) (Nat.le_refl _) hRcells hRslots
  obtain ⟨s', hA⟩ : ∃ z, z = (T.setVm s.vm).setFrames (.invoking m args :: below) := ⟨_, rfl⟩
  rw [← hA] at Y
  have hvm : s'.vm = s.vm := by rw [hA]; rfl
  have hhp : s'.heap = H := by rw [hA]; exact hT
  have hW0 : s.WarmedH s'.vm := by rw [hvm]; exact State.WarmedH.refl s
  have hat' : ∀ w ∈ vx_at0 own ic cls names, w.before args s' = true := fun w hw => vx_ot_at hW0 hvm.symm (hgood w (List.mem_cons_of_mem _ (List.mem_cons_of_mem _ hw))) (hat w hw)
  have hk' : (Cond.classLink own ik cls).before args s' = true := vx_ot_at hW0 hvm.symm (hgood _ List.mem_cons_self) hk
  have hini' : (Cond.initialized cls).before args s' = true := vx_ot_at hW0 hvm.symm (hgood _ (List.mem_cons_of_mem _ List.mem_cons_self)) hini
  have hU' : vx_Zq Bundle.tN "UNASSIGNED_STACK" Bundle.steD A s' s'.heap := by rw [hhp]; exact vx_Zq.moved hW0.alike (hU.kept hS.2.1)
  have hN' : vx_Zq Bundle.tN "SUPPRESSED_SENTINEL" Bundle.listD A s' s'.heap := by rw [hhp]; exact vx_Zq.moved hW0.alike (hN.kept hS.2.1)
  have h : ∀ w ∈ Bundle.ownAtoms0 own ic cls names, w.before args s' = true := vx_own hat' (vx_isRefq hU'.1) (vx_isRefq hN'.1) hU'.2.word hN'.2.word
  have hown' : s'.vm.findClass own = some m.cls := by rw [hvm]; exact hown
  have hins : (Cond.instantiable cls 6).before args s' = true := h _ (by simp [Bundle.ownAtoms0])
  obtain ⟨vm₁, cX, kX, hfX, hkX, -, -, X₁, st1⟩ := Y.newCold hexec (own := own) (C := cls) (index := ik) (n := 6) hown' hk' hins hini'
    (g := F0 m pc ls rest) rfl (by rw [hb]; exact d0) (Nat.le_refl _) (Nat.le_refl _)
  generalize hT1 : (T.setVm vm₁).pushCell { cls := cX, slots := kX.instanceTypes.map defaultValue, vm := .none } = T1 at X₁ st1
  have hcat : (Value.ref T.heap.size).category = 1 := rfl
  have hcellA : T1.heap[T.heap.size]? = some (freshCell cX kX) := by rw [← hT1]; exact State.heap_pushCell_size _ _
  have d3' : decode c.code (pc + 3) = .ok (.dup, 1) := by rw [hb]; exact d3
  obtain ⟨U, hsteps, hrun, hend, hW, hsame, ce, hce, hO⟩ := X₁.ctorThrow0 hexec htr (own := own) (cls := cls) (names := names) (ic := ic) hown' hcls hnames h (fun x hx => nomatch hx) hfX hkX hcellA (by rw [hhp, hT]; exact Nat.le_refl _)
    (g := { method := m, pc := pc + 4, locals := ls, stack := .ref T.heap.size :: .ref T.heap.size :: rest, locked := none }) rfl hsize rfl rfl (rest := rest) rfl
    (by rw [hb]; exact d4) (by rw [hb]; exact d7) hout hRframes (by simp only [List.map_cons, List.sum_cons, hcat]; omega) hlocks
  obtain ⟨f1, f2⟩ := vx_frame hsame
  rw [hhp] at f1 f2
  have hWs : s.WarmedH U.vm := State.WarmedH.trans hW0 hW
  have hcl : s.vm.findClass cls = some ce.cls := by
    have h9 := hO.cls
    rw [hvm] at h9
    exact h9
  have hall : s.sameButNew ({ U with vm := s.vm } : State) locs mc ms := by
    subst hA
    obtain ⟨e1, e2⟩ := hsame
    rw [State.setFrames_setFrames] at e1
    have h2 : (T.setVm s.vm).sameButNew ({ U with vm := s.vm } : State) [] (0 + 1) (0 + 6) := ⟨e1, e2⟩
    have h3 := X.same.trans h2
    rw [List.append_nil] at h3
    exact h3.mono hc hs
  refine ⟨U, ?_, .threw T.heap.size, hrun, hend, Or.inr ⟨T.heap.size, rfl, cls, ce, locs, hx U hWs.alike f1 (fun q hq => f2 q hq (fun z hz => nomatch hz)), hce, hO.vm, hcl, hWs, hall, hf⟩⟩
  refine st1 _ ?_
  show Steps p.tables e below (T1.setTop { method := m, pc := pc + 3, locals := ls, stack := .ref T.heap.size :: rest, locked := none }) _
  jvm_step X₁.here [X₁.here.top, hexec, d3', Value.category]
  exact hsteps
/-- 'throw new E("text")': new; dup; ldc; invokespecial; athrow -/
theorem vx_throwS {cc : ByteArray} {pc : Nat} (hexec : p.tables.exec = Jvm.exec) (hb : c.code = cc) (hl : l.stackTraces = false) {own cls text : String} {names : List String} {ik is ic mc ms sa : Nat} {A : Nat → Prop}
    (hown : s.vm.findClass own = some m.cls) (hcls : Bundle.fit cls = true) (hnames : ∀ n ∈ names, Bundle.fit n = true)
    (hk : (Cond.classLink own ik cls).before args s = true) (hini : (Cond.initialized cls).before args s = true) (hstr : vk_R own is text sa s) (hat : ∀ w ∈ vx_atS own ic cls names, w.before args s = true)
    (hgood : ∀ w ∈ Cond.classLink own ik cls :: Cond.initialized cls :: vx_atS own ic cls names, vx_ot w = true)
    (hU : vx_Zq Bundle.tN "UNASSIGNED_STACK" Bundle.steD A s s.heap) (hN : vx_Zq Bundle.tN "SUPPRESSED_SENTINEL" Bundle.listD A s s.heap) (hS : va_S A s.heap H locs) (hsize : ls.size = c.maxLocals)
    (d0 : decode cc pc = .ok (.new ik, 3)) (d3 : decode cc (pc + 3) = .ok (.dup, 1)) (d4 : decode cc (pc + 4) = .ok (.ldc is, 2)) (d6 : decode cc (pc + 6) = .ok (.invokespecial ic, 3)) (d9 : decode cc (pc + 9) = .ok (.athrow, 1))
    (hout : ∀ x ∈ c.exceptionTable.toList, covers x (pc + 9) = false)
    (hRframes : names.length + 3 < R.frames) (hRlocals : (rest.map fun v => v.category).sum + (13 * (names.length + 1) + 43) ≤ R.locals) (hRcells : cells + 1 ≤ R.cells) (hRslots : slots + 6 ≤ R.slots) (hlocks : meth.locks = false)
    (hx : ∀ t : State, s.vm.Alike t.vm → H.size ≤ t.heap.size → (∀ q : Nat, q < H.size → t.heap[q]? = H[q]?) → XC cls s t)
    (hf : ∀ z ∈ locs, free z.base) (hc : cells + 1 ≤ mc) (hs : slots + 6 ≤ ms) :
    W p l e R s m args below meth c H locs cells slots (vx_MQ below Qc XC args s mc ms free) (F0 m pc ls rest) := by
  intro T hT X
  have htr : e.platform.stackTraces = false := (show e.platform.stackTraces = l.stackTraces by rw [X.admits.platform]).trans hl
  have Y := vx_rebase X (R' := { frames := R.frames, locals := R.locals, cells := 1, slots := 6 }) (Nat.le_refl _) (Nat.le_refl _) hRcells hRslots
  obtain ⟨s', hA⟩ : ∃ z, z = (T.setVm s.vm).setFrames (.invoking m args :: below) := ⟨_, rfl⟩
  rw [← hA] at Y
  have hvm : s'.vm = s.vm := by rw [hA]; rfl
  have hhp : s'.heap = H := by rw [hA]; exact hT
  have hW0 : s.WarmedH s'.vm := by rw [hvm]; exact State.WarmedH.refl s
  have hat' : ∀ w ∈ vx_atS own ic cls names, w.before args s' = true := fun w hw => vx_ot_at hW0 hvm.symm (hgood w (List.mem_cons_of_mem _ (List.mem_cons_of_mem _ hw))) (hat w hw)
  have hk' : (Cond.classLink own ik cls).before args s' = true := vx_ot_at hW0 hvm.symm (hgood _ List.mem_cons_self) hk
  have hini' : (Cond.initialized cls).before args s' = true := vx_ot_at hW0 hvm.symm (hgood _ (List.mem_cons_of_mem _ List.mem_cons_self)) hini
  have hU' : vx_Zq Bundle.tN "UNASSIGNED_STACK" Bundle.steD A s' s'.heap := by rw [hhp]; exact vx_Zq.moved hW0.alike (hU.kept hS.2.1)
  have hN' : vx_Zq Bundle.tN "SUPPRESSED_SENTINEL" Bundle.listD A s' s'.heap := by rw [hhp]; exact vx_Zq.moved hW0.alike (hN.kept hS.2.1)
  have h : ∀ w ∈ Bundle.ownAtoms own ic cls names, w.before args s' = true := vx_own hat' (vx_isRefq hU'.1) (vx_isRefq hN'.1) hU'.2.word hN'.2.word
  have hown' : s'.vm.findClass own = some m.cls := by rw [hvm]; exact hown
  have hins : (Cond.instantiable cls 6).before args s' = true := h _ (by simp [Bundle.ownAtoms])
  obtain ⟨vm₁, cX, kX, hfX, hkX, -, -, X₁, st1⟩ := Y.newCold hexec (own := own) (C := cls) (index := ik) (n := 6) hown' hk' hins hini'
    (g := F0 m pc ls rest) rfl (by rw [hb]; exact d0) (Nat.le_refl _) (Nat.le_refl _)
  generalize hT1 : (T.setVm vm₁).pushCell { cls := cX, slots := kX.instanceTypes.map defaultValue, vm := .none } = T1 at X₁ st1
  have hcat : (Value.ref T.heap.size).category = 1 := rfl
  have hcellA : T1.heap[T.heap.size]? = some (freshCell cX kX) := by rw [← hT1]; exact State.heap_pushCell_size _ _
  have d3' : decode c.code (pc + 3) = .ok (.dup, 1) := by rw [hb]; exact d3
  have d4' : decode c.code (pc + 4) = .ok (.ldc is, 2) := by rw [hb]; exact d4
  have hstr' : vk_R own is text sa s' := vk_R.warm hW0 hstr
  obtain ⟨U, hsteps, hrun, hend, hW, hsame, ce, hce, hO⟩ := X₁.ctorThrowS hexec htr (own := own) (cls := cls) (names := names) (ic := ic) hown' hcls hnames h (fun x hx => nomatch hx) hfX hkX hcellA (by rw [hhp, hT]; exact Nat.le_refl _) (msg := .ref sa) rfl
    (g := { method := m, pc := pc + 6, locals := ls, stack := .ref sa :: .ref T.heap.size :: .ref T.heap.size :: rest, locked := none }) rfl hsize rfl rfl (rest := rest) rfl
    (by rw [hb]; exact d6) (by rw [hb]; exact d9) hout hRframes (by simp only [List.map_cons, List.sum_cons, hcat]; omega) hlocks
  obtain ⟨f1, f2⟩ := vx_frame hsame
  rw [hhp] at f1 f2
  have hWs : s.WarmedH U.vm := State.WarmedH.trans hW0 hW
  have hcl : s.vm.findClass cls = some ce.cls := by
    have h9 := hO.cls
    rw [hvm] at h9
    exact h9
  have hall : s.sameButNew ({ U with vm := s.vm } : State) locs mc ms := by
    subst hA
    obtain ⟨e1, e2⟩ := hsame
    rw [State.setFrames_setFrames] at e1
    have h2 : (T.setVm s.vm).sameButNew ({ U with vm := s.vm } : State) [] (0 + 1) (0 + 6) := ⟨e1, e2⟩
    have h3 := X.same.trans h2
    rw [List.append_nil] at h3
    exact h3.mono hc hs
  refine ⟨U, ?_, .threw T.heap.size, hrun, hend, Or.inr ⟨T.heap.size, rfl, cls, ce, locs, hx U hWs.alike f1 (fun q hq => f2 q hq (fun z hz => nomatch hz)), hce, hO.vm, hcl, hWs, hall, hf⟩⟩
  refine st1 _ ?_
  show Steps p.tables e below (T1.setTop { method := m, pc := pc + 3, locals := ls, stack := .ref T.heap.size :: rest, locked := none }) _
  jvm_step X₁.here [X₁.here.top, hexec, d3', Value.category]
  exact X₁.ldcString hexec (own := own) (text := text) (index := is) (a := sa) hown' hstr'.1 hstr'.2
    (g := { method := m, pc := pc + 4, locals := ls, stack := .ref T.heap.size :: .ref T.heap.size :: rest, locked := none }) rfl d4' _ hsteps
/-- 'throw new E("text")', the text by a wide index -/
theorem vx_throwSW {cc : ByteArray} {pc : Nat} (hexec : p.tables.exec = Jvm.exec) (hb : c.code = cc) (hl : l.stackTraces = false) {own cls text : String} {names : List String} {ik is ic mc ms sa : Nat} {A : Nat → Prop}
    (hown : s.vm.findClass own = some m.cls) (hcls : Bundle.fit cls = true) (hnames : ∀ n ∈ names, Bundle.fit n = true)
    (hk : (Cond.classLink own ik cls).before args s = true) (hini : (Cond.initialized cls).before args s = true) (hstr : vk_R own is text sa s) (hat : ∀ w ∈ vx_atS own ic cls names, w.before args s = true)
    (hgood : ∀ w ∈ Cond.classLink own ik cls :: Cond.initialized cls :: vx_atS own ic cls names, vx_ot w = true)
    (hU : vx_Zq Bundle.tN "UNASSIGNED_STACK" Bundle.steD A s s.heap) (hN : vx_Zq Bundle.tN "SUPPRESSED_SENTINEL" Bundle.listD A s s.heap) (hS : va_S A s.heap H locs) (hsize : ls.size = c.maxLocals)
    (d0 : decode cc pc = .ok (.new ik, 3)) (d3 : decode cc (pc + 3) = .ok (.dup, 1)) (d4 : decode cc (pc + 4) = .ok (.ldc_w is, 3)) (d7 : decode cc (pc + 7) = .ok (.invokespecial ic, 3)) (d10 : decode cc (pc + 10) = .ok (.athrow, 1))
    (hout : ∀ x ∈ c.exceptionTable.toList, covers x (pc + 10) = false)
    (hRframes : names.length + 3 < R.frames) (hRlocals : (rest.map fun v => v.category).sum + (13 * (names.length + 1) + 43) ≤ R.locals) (hRcells : cells + 1 ≤ R.cells) (hRslots : slots + 6 ≤ R.slots) (hlocks : meth.locks = false)
    (hx : ∀ t : State, s.vm.Alike t.vm → H.size ≤ t.heap.size → (∀ q : Nat, q < H.size → t.heap[q]? = H[q]?) → XC cls s t)
    (hf : ∀ z ∈ locs, free z.base) (hc : cells + 1 ≤ mc) (hs : slots + 6 ≤ ms) :
    W p l e R s m args below meth c H locs cells slots (vx_MQ below Qc XC args s mc ms free) (F0 m pc ls rest) := by
  intro T hT X
  have htr : e.platform.stackTraces = false := (show e.platform.stackTraces = l.stackTraces by rw [X.admits.platform]).trans hl
  have Y := vx_rebase X (R' := { frames := R.frames, locals := R.locals, cells := 1, slots := 6 }) (Nat.le_refl _) (Nat.le_refl _) hRcells hRslots
  obtain ⟨s', hA⟩ : ∃ z, z = (T.setVm s.vm).setFrames (.invoking m args :: below) := ⟨_, rfl⟩
  rw [← hA] at Y
  have hvm : s'.vm = s.vm := by rw [hA]; rfl
  have hhp : s'.heap = H := by rw [hA]; exact hT
  have hW0 : s.WarmedH s'.vm := by rw [hvm]; exact State.WarmedH.refl s
  have hat' : ∀ w ∈ vx_atS own ic cls names, w.before args s' = true := fun w hw => vx_ot_at hW0 hvm.symm (hgood w (List.mem_cons_of_mem _ (List.mem_cons_of_mem _ hw))) (hat w hw)
  have hk' : (Cond.classLink own ik cls).before args s' = true := vx_ot_at hW0 hvm.symm (hgood _ List.mem_cons_self) hk
  have hini' : (Cond.initialized cls).before args s' = true := vx_ot_at hW0 hvm.symm (hgood _ (List.mem_cons_of_mem _ List.mem_cons_self)) hini
  have hU' : vx_Zq Bundle.tN "UNASSIGNED_STACK" Bundle.steD A s' s'.heap := by rw [hhp]; exact vx_Zq.moved hW0.alike (hU.kept hS.2.1)
  have hN' : vx_Zq Bundle.tN "SUPPRESSED_SENTINEL" Bundle.listD A s' s'.heap := by rw [hhp]; exact vx_Zq.moved hW0.alike (hN.kept hS.2.1)
  have h : ∀ w ∈ Bundle.ownAtoms own ic cls names, w.before args s' = true := vx_own hat' (vx_isRefq hU'.1) (vx_isRefq hN'.1) hU'.2.word hN'.2.word
  have hown' : s'.vm.findClass own = some m.cls := by rw [hvm]; exact hown
  have hins : (Cond.instantiable cls 6).before args s' = true := h _ (by simp [Bundle.ownAtoms])
  obtain ⟨vm₁, cX, kX, hfX, hkX, -, -, X₁, st1⟩ := Y.newCold hexec (own := own) (C := cls) (index := ik) (n := 6) hown' hk' hins hini'
    (g := F0 m pc ls rest) rfl (by rw [hb]; exact d0) (Nat.le_refl _) (Nat.le_refl _)
  generalize hT1 : (T.setVm vm₁).pushCell { cls := cX, slots := kX.instanceTypes.map defaultValue, vm := .none } = T1 at X₁ st1
  have hcat : (Value.ref T.heap.size).category = 1 := rfl
  have hcellA : T1.heap[T.heap.size]? = some (freshCell cX kX) := by rw [← hT1]; exact State.heap_pushCell_size _ _
  have d3' : decode c.code (pc + 3) = .ok (.dup, 1) := by rw [hb]; exact d3
  have d4' : decode c.code (pc + 4) = .ok (.ldc_w is, 3) := by rw [hb]; exact d4
  have hstr' : vk_R own is text sa s' := vk_R.warm hW0 hstr
  obtain ⟨U, hsteps, hrun, hend, hW, hsame, ce, hce, hO⟩ := X₁.ctorThrowS hexec htr (own := own) (cls := cls) (names := names) (ic := ic) hown' hcls hnames h (fun x hx => nomatch hx) hfX hkX hcellA (by rw [hhp, hT]; exact Nat.le_refl _) (msg := .ref sa) rfl
    (g := { method := m, pc := pc + 7, locals := ls, stack := .ref sa :: .ref T.heap.size :: .ref T.heap.size :: rest, locked := none }) rfl hsize rfl rfl (rest := rest) rfl
    (by rw [hb]; exact d7) (by rw [hb]; exact d10) hout hRframes (by simp only [List.map_cons, List.sum_cons, hcat]; omega) hlocks
  obtain ⟨f1, f2⟩ := vx_frame hsame
  rw [hhp] at f1 f2
  have hWs : s.WarmedH U.vm := State.WarmedH.trans hW0 hW
  have hcl : s.vm.findClass cls = some ce.cls := by
    have h9 := hO.cls
    rw [hvm] at h9
    exact h9
  have hall : s.sameButNew ({ U with vm := s.vm } : State) locs mc ms := by
    subst hA
    obtain ⟨e1, e2⟩ := hsame
    rw [State.setFrames_setFrames] at e1
    have h2 : (T.setVm s.vm).sameButNew ({ U with vm := s.vm } : State) [] (0 + 1) (0 + 6) := ⟨e1, e2⟩
    have h3 := X.same.trans h2
    rw [List.append_nil] at h3
    exact h3.mono hc hs
  refine ⟨U, ?_, .threw T.heap.size, hrun, hend, Or.inr ⟨T.heap.size, rfl, cls, ce, locs, hx U hWs.alike f1 (fun q hq => f2 q hq (fun z hz => nomatch hz)), hce, hO.vm, hcl, hWs, hall, hf⟩⟩
  refine st1 _ ?_
  show Steps p.tables e below (T1.setTop { method := m, pc := pc + 3, locals := ls, stack := .ref T.heap.size :: rest, locked := none }) _
  jvm_step X₁.here [X₁.here.top, hexec, d3', Value.category]
  exact X₁.ldcStringW hexec (own := own) (text := text) (index := is) (a := sa) hown' hstr'.1 hstr'.2
    (g := { method := m, pc := pc + 4, locals := ls, stack := .ref T.heap.size :: .ref T.heap.size :: rest, locked := none }) rfl d4' _ hsteps
end Ends
section Bodies
variable {l : Launch}
theorem vx_ofW {y : MethodName} {ws ws' : List Cond} {rm : Room} {Pc : Array Value → State → Prop} {Qc : Array Value → State → Outcome → State → Prop} {XC : String → State → State → Prop} {mc ms : Nat} {free : Addr → Prop} {cc : ByteArray} {maxL : Nat} {ret : Option FieldType}
    (hy : plainName y.cls = true) (hw : ws = Cond.code y cc maxL ret :: ws')
    (body : ∀ p e s m args below meth c s₁, BodyLoose p l y (headSpec ws rm) cc maxL ret e s m args below meth c s₁ → c.maxLocals = maxL → (∀ x ∈ c.exceptionTable.toList, False) → Pc args s →
      W p l e (headSpec ws rm).room s m args below meth c s.heap [] 0 0 (vx_MQ below Qc XC args s mc ms free) (entryFrame m args maxL)) : vx_Met l y ws rm Pc Qc XC mc ms free := by
  refine MetFree.of_bodyS (code := cc) (maxLocals := maxL) (ret := ret) hy ?_ ?_
  · intro args s m h hn
    obtain ⟨meth, c, h1, h2, h3, h4, h5, h6, -, -⟩ := Cond.code_spec hn (atoms_spec (ws := ws) h _ (by rw [hw]; exact List.mem_cons_self))
    exact ⟨meth, c, h1, h2, h3, h4, h5, h6⟩
  · intro p e s m args below meth c s₁ B hml hP _
    have hh0 : s₁.heap = s.heap := by rw [B.state]; rfl
    have ht : ∀ x ∈ c.exceptionTable.toList, False := by
      obtain ⟨meth9, c9, h1, h2, -, -, -, -, h7, -⟩ := Cond.code_spec B.named (atoms_spec (ws := ws) B.pre _ (by rw [hw]; exact List.mem_cons_self))
      cases Option.some.inj (h1.symm.trans B.method)
      cases Option.some.inj (h2.symm.trans (Stand.of_body B).code)
      intro x hx
      rw [Array.isEmpty_iff.mp h7] at hx
      cases hx
    obtain ⟨t, a1, o, b1, b2, b3⟩ := body p e s m args below meth c s₁ B hml ht hP s₁ hh0 (Stand.of_body B)
    exact ⟨t, o, a1, b1, b2, b3⟩
/-- the table of a body with handlers -/
theorem vx_table {p : Program} {x y : MethodName} {S : Spec} {cc bytes : ByteArray} {maxL maxL' : Nat} {ret ret' : Option FieldType} {e : Env} {s s₁ : State} {m : MethodId} {args : Array Value} {below : List Frame} {meth : Method} {c : Code} {hh : List (Nat × Nat × Nat × Nat)}
    (B : BodyLoose p l y S cc maxL ret e s m args below meth c s₁) (h : (Cond.codeWith y bytes maxL' ret' hh).before args s = true) : c.exceptionTable.toList = tableOf hh := by
  obtain ⟨m9, meth9, c9, hn9, h1, h2, -, -, h6, -⟩ := Cond.codeWith_spec h
  cases Option.some.inj (hn9.symm.trans B.named)
  cases Option.some.inj (h1.symm.trans B.method)
  cases Option.some.inj (h2.symm.trans (Stand.of_body B).code)
  rw [← h6, table_eq]
end Bodies
end VXA
/-! ===== END ===== -/
/-! ===== BEGIN a static call of a method with an exception table ===== -/
section VXS
variable {p : Program} {l : Launch} {e : Env} {R : Room} {s : State} {m : MethodId} {args : Array Value} {below : List Frame} {meth : Method} {c : Code} {T : State} {H : Heap} {locs : List Loc} {cells slots : Nat}
abbrev vx_CSW (R : Room) (s : State) (args : Array Value) (own : String) (index : Nat) (y : MethodName) (bytes : ByteArray) (maxL : Nat) (ret : Option FieldType) (hh : List (Nat × Nat × Nat × Nat)) (ws : List Cond) (rm : Room) (mc ms n : Nat) : Prop :=
  (rm.cells = mc ∧ rm.slots = ms ∧ rm.frames + 1 ≤ R.frames ∧ 8 + (maxL + 11) + rm.locals ≤ R.locals ∧ (∀ w ∈ ws, ∀ (a' : Array Value) (U : State), s.WarmedH U.vm → w.before a' U = true) ∧ Cond.codeWith y bytes maxL ret hh ∈ ws) ∧
  (Cond.codeWith y bytes maxL ret hh).before args s = true ∧ (Cond.initialized y.cls).before args s = true ∧ (y.cls ≠ "java/lang/invoke/MethodHandle" ∧ y.cls ≠ "java/lang/invoke/VarHandle") ∧
  (∀ sig, parseMethodDescriptor y.desc = some sig → n = sig.parameters.length) ∧ (Cond.methodLink own index y).before args s = true ∧ (Cond.static y).before args s = true
theorem vx_cwSW {own : String} {index maxL mc ms : Nat} {y : MethodName} {bytes : ByteArray} {ret : Option FieldType} {hh : List (Nat × Nat × Nat × Nat)} {Ts ws ws' : List Cond} {rm : Room} (n : Nat) (ht : ∀ w ∈ Ts, w.before args s = true) (hT : GoodIn Ts (va_wsS own index y ws)) (hw : ws = Cond.codeWith y bytes maxL ret hh :: ws') (hrc : rm.cells = mc) (hrs : rm.slots = ms)
    (hd : y.cls ≠ "java/lang/invoke/MethodHandle" ∧ y.cls ≠ "java/lang/invoke/VarHandle" ∧ (parseMethodDescriptor y.desc).map (fun d => d.parameters.length) = some n) (hR : rm.frames + 1 ≤ R.frames ∧ 8 + (maxL + 11) + rm.locals ≤ R.locals) :
    vx_CSW R s args own index y bytes maxL ret hh ws rm mc ms n := by
  have ok : ∀ w ∈ va_wsS own index y ws, w.before args s = true := fun w h => ht w (hT w h).1
  have hG : GoodIn Ts ws := fun w h => hT w (by unfold va_wsS; exact List.mem_append_right _ h)
  have hc : Cond.codeWith y bytes maxL ret hh ∈ ws := by rw [hw]; exact List.mem_cons_self
  refine ⟨⟨hrc, hrs, hR.1, hR.2, pay_in ht hG, hc⟩, ht _ (hG _ hc).1, ok _ (by simp [va_wsS]), ⟨hd.1, hd.2.1⟩, fun sig h => ?_, ok _ (by simp [va_wsS]), ok _ (by simp [va_wsS])⟩
  have h2 := hd.2.2
  rw [h] at h2
  exact (Option.some.inj h2).symm
theorem vx_callSW (X : Stand p l e R s m args below meth c T locs cells slots) (hexec : p.tables.exec = Jvm.exec) {own : String} {index : Nat} {y : MethodName} {bytes : ByteArray} {maxL : Nat} {ret : Option FieldType} {hh : List (Nat × Nat × Nat × Nat)}
    (hown : s.vm.findClass own = some m.cls) (hlink : (Cond.methodLink own index y).before args s = true) (hstat : (Cond.static y).before args s = true) (hinit : (Cond.initialized y.cls).before args s = true)
    (hcode : (Cond.codeWith y bytes maxL ret hh).before args s = true) (hy : y.cls ≠ "java/lang/invoke/MethodHandle" ∧ y.cls ≠ "java/lang/invoke/VarHandle")
    {W9 : Nat} {Pre : Pt → Array Value → Prop} {Post : Pt → Array Value → Option Value → Pt → Prop} (hK : Back l R p e below s args y 3 W9 Pre Post)
    {g : JFrame} (hg : g.method = m) (hsize : g.locals.size = c.maxLocals) {argsL rest : List Value} (hlen : ∀ sig, parseMethodDescriptor y.desc = some sig → argsL.length = sig.parameters.length)
    (hstack : g.stack = argsL.reverse ++ rest) (hW : 2 * g.monitorRoom + (rest.map fun v => v.category).sum ≤ W9) (hdg : decode c.code g.pc = .ok (.invokestatic index, 3))
    (hpre : ∀ vm₁, s.WarmedH vm₁ → Pre ⟨T.setVm vm₁, locs, cells, slots⟩ argsL.toArray) :
    ∃ (v : Option Value) (vm₁ : Vm) (B : Pt), s.WarmedH vm₁ ∧ Stand p l e R s m args below meth c B.U B.locs B.cells B.slots ∧ Post ⟨T.setVm vm₁, locs, cells, slots⟩ argsL.toArray v B ∧
      ∀ target, Steps p.tables e below (B.U.setTop { g with pc := g.pc + 3, stack := v.toList ++ rest }) target → Steps p.tables e below (T.setTop g) target := by
  obtain ⟨mk, methM, cM, hnamed, hmethM, -, -, -, -, -, -, hsigM⟩ := Cond.codeWith_spec hcode
  have hstatic : methM.isStatic = true := Cond.static_spec hnamed hmethM hstat
  obtain ⟨kP, hkP, -⟩ := className_of_methodNamed hnamed
  have hinitP : kP.init = .initialized := Cond.initialized_spec (findClass_of_methodNamed hnamed) hkP hinit
  obtain ⟨vm₁, X₁, hstep₁⟩ := X.invokestatic hexec hown hlink hnamed hmethM hstatic hkP hinitP hy (g := g) hg (argsL := argsL) (rest := rest) (hlen _ hsigM) hstack hdg
  obtain ⟨v, B, X', hpost, hsteps⟩ := hK m meth c ⟨T.setVm vm₁, locs, cells, slots⟩ { g with stack := rest } (.invokestatic index) mk argsL.toArray X₁ hg hsize hdg hW (X₁.named hnamed) (hpre vm₁ X₁.warmed)
  exact ⟨v, vm₁, B, X₁.warmed, X', hpost, fun target h => hstep₁ _ fun acts => by rw [doInvoke_state]; exact hsteps.trans h⟩
theorem vx_runSW {y : MethodName} {bytes cc : ByteArray} {maxL nL mc ms n index : Nat} {ret : Option FieldType} {hh : List (Nat × Nat × Nat × Nat)} {ws : List Cond} {rm : Room} {Pc : Array Value → State → Prop} {Qc : Array Value → State → Outcome → State → Prop} {free : Addr → Prop} {Ts : List Cond} {own : String} {As rest : List Value} {g : JFrame}
    (S : CallFix p m c cc nL s args Ts own) (hM : Met l y ws rm Pc Qc mc ms free) (cw : vx_CSW R s args own index y bytes maxL ret hh ws rm mc ms n) (hp : PreS s H Pc As)
    (hg : g.method = m) (hn : As.length = n) (hsize : g.locals.size = nL) (hstack : g.stack = As.reverse ++ rest) (hW : 2 * g.monitorRoom + (rest.map fun v => v.category).sum ≤ 8) (hdg : decode cc g.pc = .ok (.invokestatic index, 3)) (hf : cells + mc ≤ R.cells ∧ slots + ms ≤ R.slots) :
    va_Run p l e R s m args below meth c H locs cells slots mc ms g rest (Qc As.toArray) (free) := by
  obtain ⟨⟨hrc, hrs, hfr, hlo, hws, hcw⟩, hcode, hini, hy, hlen, hl, hstt⟩ := cw
  have hK : Back l R p e below s args y 3 8 (PreOf R mc ms Pc) (PostOf Qc mc ms free) := va_backW (hh := hh) (bytes := bytes) (maxL := maxL) (ret := ret) hM hp.1 hrc hrs hfr hlo hws hcw (fun a' U hW => word_at hW (Or.inl (by first | rfl | simp [Cond.onTables, Cond.keeps, Cond.steady])) hini)
  obtain ⟨hx, hb, hml, ho, -⟩ := S
  intro T hT X
  obtain ⟨v, vm₁, ⟨U', l2, c2, s2⟩, hW₁, X', ⟨g', mk, t, L, e1, e2, hq, h1, hL, h2, h3⟩, st⟩ := vx_callSW X hx (hh := hh) (bytes := bytes) (maxL := maxL) (ret := ret) ho hl hstt hini hcode hy hK hg (hsize.trans hml.symm) (argsL := As) (rest := rest) (fun sig h => hn.trans (hlen sig h)) hstack hW (by rw [hb]; exact hdg)
    (fun vm₁ hW₁ => ⟨hf.1, hf.2, hp.2 (T.setVm vm₁) hT hW₁⟩)
  dsimp only [Pt.U, Pt.locs, Pt.cells, Pt.slots] at X' e1 e2 h1 h2 h3 st
  subst h1; subst h2; subst h3
  exact ⟨v, (T.setVm vm₁).calling g' mk As.toArray, t, U', L, hT, X', hL, e1, e2, hq, st⟩
/-- not caught here, past rows that name other classes: it goes on to the caller -/
theorem vx_outP {p : Program} {l : Launch} {e : Env} {R : Room} {s : State} {m : MethodId} {args : Array Value} {below : List Frame} {meth : Method} {c : Code} {H : Heap} {locs : List Loc} {cells slots : Nat} {free : Addr → Prop} {ls : Array Slot} {rest : List Value} {Qc : Array Value → State → Outcome → State → Prop} {XC : String → State → State → Prop}
    {pc : Nat} {own E : String} {ce : Cell} {q : Addr} {mc ms : Nat} (hown : s.vm.findClass own = some m.cls) (hlocks : meth.locks = false)
    (hpass : ∀ z ∈ c.exceptionTable.toList, covers z pc = false ∨ (z.catchType ≠ 0 ∧ ∃ nm : String, (Cond.classLink own z.catchType nm).before args s = true ∧ va_Nc E nm s)) (hcell : H[q]? = some ce) (hv : ce.vm = .none) (hcl : s.vm.findClass E = some ce.cls)
    (hx : ∀ t : State, t.heap = H → s.vm.Alike t.vm → XC E s t) (hf : ∀ z ∈ locs, free z.base) (hc : cells ≤ mc) (hs : slots ≤ ms) :
    vx_W p l e R s m args below meth c H locs cells slots (vx_MQ below Qc XC args s mc ms free) (F0 m pc ls rest) q := by
  intro T hT X
  have hpl : e.platform.magicAccessors = ({} : Platform).magicAccessors := by rw [X.admits.platform]
  obtain ⟨vm', hW', X', st⟩ := X.outThrough hlocks q (g := F0 m pc ls rest) rfl rfl rfl (cell := ce) (by rw [hT]; exact hcell) (by rw [hv]; rfl)
    (by obtain ⟨k9, h9, -⟩ := Vm.findClass_spec hcl; exact ⟨k9, h9⟩) (fun z hz => by
      rcases hpass z hz with h | ⟨hz0, nm, hl1, hn1⟩
      · exact Or.inl h
      · obtain ⟨c6, hc6, hcl6⟩ := Cond.classLink_spec hown hl1 e.platform hpl
        obtain ⟨a8, b8, h1, h2, h3⟩ := hn1
        cases Option.some.inj (h1.symm.trans hcl)
        cases Option.some.inj (h2.symm.trans hc6)
        exact Or.inr ⟨hz0, _, hcl6, h3⟩)
  obtain ⟨g₀, hfr⟩ := X'.frames_eq
  have hcell9 : ((T.setVm vm').setFrames (.throwing q :: below)).heap[q]? = some ce := by
    show T.heap[q]? = some ce
    rw [hT]; exact hcell
  have hend : Ended ((T.setVm vm').setFrames (.throwing q :: below)) below (.threw q) := State.frames_setFrames _ (State.cur_lt_of_frames hfr)
  refine ⟨(T.setVm vm').setFrames (.throwing q :: below), ?_, .threw q, X'.here.running, hend, Or.inr ⟨q, rfl, E, ce, locs, hx _ hT (X'.ends _).1.alike, hcell9, hv, hcl, (X'.ends _).1, (X'.ends _).2.mono hc hs, hf⟩⟩
  rw [X.pushThrowing_eq]
  exact st
/-- a thing of a world lies in the heap -/
theorem vx_lt {D : va_G} {cl : List vw_C} {ws : va_W} {H1 : Heap} (h : va_P D cl ws H1) {k : Nat} {q : Nat × va_E} (hk : ws[k]? = some q) : q.1 < H1.size := (h k q hk).lt
end VXS
/-! ===== END ===== -/
/-! ===== BEGIN methods with a table of their own: called by a name, returning or throwing ===== -/
section VXH
/-! vx_backW, vx_callVX, vx_callSX, vx_callVW, vx_runVW, vx_runVX, vx_runSX, vx_ofWH follow the same proofs as their sisters above (Free/Laws.lean, Shelf42/LK1.lean); vx_outP calls Shelf42/NT130.lean (outThrough). -/
section
variable {l : Launch} {R : Room} {p : Program} {e : Env} {below : List Frame} {s : State} {sargs : Array Value} {y : MethodName} {len W9 : Nat}
theorem vx_backW {ws : List Cond} {rm : Room} {Pc : Array Value → State → Prop} {Qc : Array Value → State → Outcome → State → Prop} {XC : String → State → State → Prop} {mc ms : Nat} {free : Addr → Prop} {bytes : ByteArray} {maxL : Nat} {ret : Option FieldType} {hh : List (Nat × Nat × Nat × Nat)}
    (hM : vx_Met l y ws rm Pc Qc XC mc ms free) (hblind : FrameBlind Pc) (hrc : rm.cells = mc) (hrs : rm.slots = ms)
    (hframes : rm.frames + 1 ≤ R.frames) (hlocals : W9 + (maxL + 11) + rm.locals ≤ R.locals)
    (hws : ∀ w ∈ ws, ∀ a' U, s.WarmedH U.vm → w.before a' U = true) (hcode : Cond.codeWith y bytes maxL ret hh ∈ ws) (hinit : ∀ a' U, s.WarmedH U.vm → (Cond.initialized y.cls).before a' U = true) :
    vx_Back l R p e below s sargs y len W9 (PreOf R mc ms Pc) (PostOf Qc mc ms free) (vx_Post XC mc ms free) := by
  intro m meth c A g ig mk a X hg hsize hdg hW hn hp
  have h1 : (headSpec ws rm).pre.before a A.U = true := atoms_intro fun w hw => hws w hw _ _ X.warmed
  have h2 : (Cond.codeWith y bytes maxL ret hh).before a A.U = true := hws _ hcode _ _ X.warmed
  have h3 : (Cond.initialized y.cls).before a A.U = true := hinit _ _ X.warmed
  have h4 : A.cells + (headSpec ws rm).room.cells ≤ R.cells := by rw [show (headSpec ws rm).room.cells = mc from hrc]; exact hp.1
  have h5 : A.slots + (headSpec ws rm).room.slots ≤ R.slots := by rw [show (headSpec ws rm).room.slots = ms from hrs]; exact hp.2.1
  have hPc : Pc a (A.U.calling g mk a) := hblind _ _ _ _ hp.2.2
  obtain ⟨U, Ls, c0, s0⟩ := A
  dsimp only [Pt.U, Pt.locs, Pt.cells, Pt.slots] at h1 h2 h3 h4 h5 X hn hPc ⊢
  obtain ⟨m9, methY, cY, hn9, hmY, hcY, -, hlY, -⟩ := Cond.codeWith_spec h2
  cases Option.some.inj (hn9.symm.trans hn)
  obtain ⟨kY, hkY, -⟩ := className_of_methodNamed hn
  have hinitY : kY.init = .initialized := Cond.initialized_spec (findClass_of_methodNamed hn) hkY h3
  have h : At U g.method c below := by rw [hg]; exact X.here
  have hlocals9 : W9 + (maxL + 11) + (headSpec ws rm).room.locals ≤ R.locals := hlocals
  have happ : (headSpec ws rm).appliesLoose y e.platform (U.calling g mk a) = true :=
    Spec.appliesLoose_calling (g := g) h hdg hn hkY hinitY
      (X.room_calling (g := g) (R' := (headSpec ws rm).room) hsize hmY hcY hframes (by rw [hlY]; omega) h4 h5) h1
  obtain ⟨mid, hmid⟩ := h.above
  have hfr : (U.setTop g).frames = (.java g :: mid) ++ below := by rw [State.frames_setTop' g h.top, hmid]; rfl
  obtain ⟨o, s₂, hsteps, -, hend, hq⟩ := Steps.callFree hM p X.admits X.cas X.clock (acts := []) hfr happ hPc trivial
  have hq' : vx_Q Qc XC mc ms free a (U.calling g mk a) o s₂ := hq
  rw [State.frames_setTop' g h.top] at hend
  obtain ⟨g₀, hg0⟩ := Option.isSome_iff_exists.mp h.top
  obtain ⟨r, hr⟩ := State.topJava?_eq_some.mp hg0
  have hr' : (({ U with heap := s₂.heap, slotsUsed := s₂.slotsUsed } : State).setVm s₂.vm).frames = .java g₀ :: r := hr
  rcases hq' with ⟨hqc, L, hfe, hL⟩ | ⟨q, rfl, E, ce, L, hx, hce, hcv, hcl, hW₂, hsm, hL⟩
  · obtain ⟨⟨v, rfl⟩, hW₂, e2, q2, q3, q4, q5, q6⟩ := id hfe
    have e3 : s₂ = ({ (U.calling g mk a).setFrames s₂.frames with heap := s₂.heap, slotsUsed := s₂.slotsUsed } : State).setVm s₂.vm := by
      have : s₂ = ({ s₂ with vm := (U.calling g mk a).vm } : State).setVm s₂.vm := rfl
      rw [e2] at this
      exact this
    obtain ⟨c₂, i₂, len₂, hc₂, hd₂, hf₂⟩ := hend
    have hW' : U.WarmedH s₂.vm := hW₂
    have hcc : c₂ = c := by
      have h1 : s₂.code? g.method = U.code? g.method := by
        rw [State.code?_eq, State.code?_eq, hW'.alike.method?]
      exact Option.some.inj (hc₂.symm.trans (h1.trans h.code))
    subst hcc
    have hlen : len₂ = len := by rw [hdg] at hd₂; cases hd₂; rfl
    subst hlen
    have hs₂ : s₂ = (({ U with heap := s₂.heap, slotsUsed := s₂.slotsUsed } : State).setVm s₂.vm).setTop { g with pc := g.pc + len₂, stack := v.toList ++ g.stack } := by
      refine e3.trans ?_
      rw [hf₂, State.calling_eq h.top, State.setFrames_setFrames, State.setTop_of_frames _ hr', hr]
      rfl
    have hsame : U.sameButNew ({ U with heap := s₂.heap, slotsUsed := s₂.slotsUsed } : State) L mc ms := by
      refine ⟨?_, q2, q3, q4, q5, q6⟩
      obtain ⟨t, ht, -⟩ := State.frames_cons hr
      show ({ U with heap := s₂.heap, slotsUsed := s₂.slotsUsed } : State) = { U.setFrames U.frames with heap := s₂.heap, slotsUsed := s₂.slotsUsed }
      rw [State.setFrames_self ht]
    subst hg
    refine Or.inl ⟨v, ⟨(({ U with heap := s₂.heap, slotsUsed := s₂.slotsUsed } : State).setVm s₂.vm), Ls ++ L, c0 + mc, s0 + ms⟩,
      ⟨X.admits, X.cas, X.clock, X.frames, X.room, X.hears, X.method, X.code, (X.here.setHeapUsed s₂.heap s₂.slotsUsed).setVm hW'.alike, X.tail, State.WarmedH.trans X.warmed hW', X.limits, X.bytes, X.same.trans (hsame.setVm s.vm)⟩,
      ⟨g, mk, s₂, L, rfl, rfl, hqc, rfl, hL, rfl, rfl⟩, ?_⟩
    show Steps p.tables e below _ ((({ U with heap := s₂.heap, slotsUsed := s₂.slotsUsed } : State).setVm s₂.vm).setTop { g with pc := g.pc + len₂, stack := v.toList ++ g.stack })
    rw [← hs₂]
    exact hsteps
  · obtain ⟨e2, q2, q3, q4, q5, q6⟩ := id hsm
    have e3 : s₂ = ({ (U.calling g mk a).setFrames s₂.frames with heap := s₂.heap, slotsUsed := s₂.slotsUsed } : State).setVm s₂.vm := by
      have : s₂ = ({ s₂ with vm := (U.calling g mk a).vm } : State).setVm s₂.vm := rfl
      rw [e2] at this
      exact this
    have hf₂ : s₂.frames = .throwing q :: .java g :: U.frames.tail := hend
    have hW' : U.WarmedH s₂.vm := hW₂
    have hs₂ : s₂ = ((({ U with heap := s₂.heap, slotsUsed := s₂.slotsUsed } : State).setVm s₂.vm).setTop g).pushFrame (.throwing q) := by
      refine e3.trans ?_
      rw [hf₂, State.calling_eq h.top, State.setFrames_setFrames, State.pushFrame, State.frames_setTop _ hr', State.setTop_of_frames _ hr', State.setFrames_setFrames, hr]
      rfl
    have hsame : U.sameButNew ({ U with heap := s₂.heap, slotsUsed := s₂.slotsUsed } : State) L mc ms := by
      refine ⟨?_, q2, q3, q4, q5, q6⟩
      obtain ⟨t, ht, -⟩ := State.frames_cons hr
      show ({ U with heap := s₂.heap, slotsUsed := s₂.slotsUsed } : State) = { U.setFrames U.frames with heap := s₂.heap, slotsUsed := s₂.slotsUsed }
      rw [State.setFrames_self ht]
    subst hg
    refine Or.inr ⟨q, ⟨(({ U with heap := s₂.heap, slotsUsed := s₂.slotsUsed } : State).setVm s₂.vm), Ls ++ L, c0 + mc, s0 + ms⟩,
      ⟨X.admits, X.cas, X.clock, X.frames, X.room, X.hears, X.method, X.code, (X.here.setHeapUsed s₂.heap s₂.slotsUsed).setVm hW'.alike, X.tail, State.WarmedH.trans X.warmed hW', X.limits, X.bytes, X.same.trans (hsame.setVm s.vm)⟩,
      ⟨g, mk, s₂, L, E, ce, rfl, rfl, hx, hce, hcv, hcl, rfl, hL, rfl, rfl⟩, ?_⟩
    show Steps p.tables e below _ (((({ U with heap := s₂.heap, slotsUsed := s₂.slotsUsed } : State).setVm s₂.vm).setTop g).pushFrame (.throwing q))
    rw [← hs₂]
    exact hsteps
end
variable {p : Program} {l : Launch} {e : Env} {R : Room} {s : State} {m : MethodId} {args : Array Value} {below : List Frame} {meth : Method} {c : Code} {T : State} {H : Heap} {locs : List Loc} {cells slots : Nat}
theorem vx_callVX (X : Stand p l e R s m args below meth c T locs cells slots) (hexec : p.tables.exec = Jvm.exec) {own C : String} {index : Nat} {y : MethodName} {bytes : ByteArray} {maxL : Nat} {ret : Option FieldType} {hh : List (Nat × Nat × Nat × Nat)}
    (hown : s.vm.findClass own = some m.cls) (hlink : (Cond.methodLink own index y).before args s = true) (hinst : (Cond.instanceMethod y).before args s = true) (hsel : (Cond.selects C y y).before args s = true)
    (hcode : (Cond.codeWith y bytes maxL ret hh).before args s = true) (hy : y.cls ≠ "java/lang/invoke/MethodHandle" ∧ y.cls ≠ "java/lang/invoke/VarHandle")
    {W9 : Nat} {Pre : Pt → Array Value → Prop} {Post : Pt → Array Value → Option Value → Pt → Prop} {PostX : Pt → Array Value → Addr → Pt → Prop} (hK : vx_Back l R p e below s args y 3 W9 Pre Post PostX)
    {b : Addr} {cellB : Cell} (hcell : T.heap[b]? = some cellB) (hobj : cellB.vm.isStatics = false) (hcls : s.vm.findClass C = some cellB.cls)
    {g : JFrame} (hg : g.method = m) (hsize : g.locals.size = c.maxLocals) {argsL rest : List Value} (hlen : ∀ sig, parseMethodDescriptor y.desc = some sig → argsL.length = sig.parameters.length)
    (hstack : g.stack = argsL.reverse ++ .ref b :: rest) (hW : 2 * g.monitorRoom + (rest.map fun v => v.category).sum ≤ W9) (hdg : decode c.code g.pc = .ok (.invokevirtual index, 3))
    (hpre : ∀ vm₁, s.WarmedH vm₁ → Pre ⟨T.setVm vm₁, locs, cells, slots⟩ (Value.ref b :: argsL).toArray) :
    (∃ (v : Option Value) (vm₁ : Vm) (B : Pt), s.WarmedH vm₁ ∧ Stand p l e R s m args below meth c B.U B.locs B.cells B.slots ∧ Post ⟨T.setVm vm₁, locs, cells, slots⟩ (Value.ref b :: argsL).toArray v B ∧
      ∀ target, Steps p.tables e below (B.U.setTop { g with pc := g.pc + 3, stack := v.toList ++ rest }) target → Steps p.tables e below (T.setTop g) target) ∨
    (∃ (q : Addr) (vm₁ : Vm) (B : Pt), s.WarmedH vm₁ ∧ Stand p l e R s m args below meth c B.U B.locs B.cells B.slots ∧ PostX ⟨T.setVm vm₁, locs, cells, slots⟩ (Value.ref b :: argsL).toArray q B ∧
      Steps p.tables e below (T.setTop g) ((B.U.setTop { g with stack := rest }).pushFrame (.throwing q))) := by
  obtain ⟨mk, methM, hnamed, hmethM, hstM, habM⟩ := Cond.instanceMethod_spec hinst
  obtain ⟨m8, methM', cM, hn8, hmethM', -, -, -, -, -, -, hsigM⟩ := Cond.codeWith_spec hcode
  cases Option.some.inj (hn8.symm.trans hnamed)
  cases hmethM.symm.trans hmethM'
  obtain ⟨c2, r2, m2, q1, q2, q3, q4, kP, hkP, hkPi⟩ := Cond.selects_spec hsel
  cases hcls.symm.trans q1
  cases (State.methodFound?_of_named hnamed hy).symm.trans q2
  cases hnamed.symm.trans q3
  have hselP : selectMethod e.platform s.vm cellB.cls mk = .method mk := by rw [Launch.admits_selectMethod X.admits]; exact q4
  obtain ⟨vm₁, X₁, hstep₁⟩ := X.invokevirtual hexec hown hlink hnamed hmethM hstM hkP hkPi hy (a := b) (cell := cellB) hcell
    (fun z h => by rw [h] at hobj; cases hobj) hselP hmethM habM hkP hkPi (g := g) hg (argsL := argsL) (rest := rest) (hlen _ hsigM) hstack hdg
  rcases hK m meth c ⟨T.setVm vm₁, locs, cells, slots⟩ { g with stack := rest } (.invokevirtual index) mk (Value.ref b :: argsL).toArray X₁ hg hsize hdg hW (X₁.named hnamed) (hpre vm₁ X₁.warmed) with ⟨v, B, X', hpost, hsteps⟩ | ⟨q, B, X', hpost, hsteps⟩
  · exact Or.inl ⟨v, vm₁, B, X₁.warmed, X', hpost, fun target h => hstep₁ _ fun acts => by rw [doInvoke_state]; exact hsteps.trans h⟩
  · exact Or.inr ⟨q, vm₁, B, X₁.warmed, X', hpost, hstep₁ _ fun acts => by rw [doInvoke_state]; exact hsteps⟩
theorem vx_callSX (X : Stand p l e R s m args below meth c T locs cells slots) (hexec : p.tables.exec = Jvm.exec) {own : String} {index : Nat} {y : MethodName} {bytes : ByteArray} {maxL : Nat} {ret : Option FieldType} {hh : List (Nat × Nat × Nat × Nat)}
    (hown : s.vm.findClass own = some m.cls) (hlink : (Cond.methodLink own index y).before args s = true) (hstat : (Cond.static y).before args s = true) (hinit : (Cond.initialized y.cls).before args s = true)
    (hcode : (Cond.codeWith y bytes maxL ret hh).before args s = true) (hy : y.cls ≠ "java/lang/invoke/MethodHandle" ∧ y.cls ≠ "java/lang/invoke/VarHandle")
    {W9 : Nat} {Pre : Pt → Array Value → Prop} {Post : Pt → Array Value → Option Value → Pt → Prop} {PostX : Pt → Array Value → Addr → Pt → Prop} (hK : vx_Back l R p e below s args y 3 W9 Pre Post PostX)
    {g : JFrame} (hg : g.method = m) (hsize : g.locals.size = c.maxLocals) {argsL rest : List Value} (hlen : ∀ sig, parseMethodDescriptor y.desc = some sig → argsL.length = sig.parameters.length)
    (hstack : g.stack = argsL.reverse ++ rest) (hW : 2 * g.monitorRoom + (rest.map fun v => v.category).sum ≤ W9) (hdg : decode c.code g.pc = .ok (.invokestatic index, 3))
    (hpre : ∀ vm₁, s.WarmedH vm₁ → Pre ⟨T.setVm vm₁, locs, cells, slots⟩ argsL.toArray) :
    (∃ (v : Option Value) (vm₁ : Vm) (B : Pt), s.WarmedH vm₁ ∧ Stand p l e R s m args below meth c B.U B.locs B.cells B.slots ∧ Post ⟨T.setVm vm₁, locs, cells, slots⟩ argsL.toArray v B ∧
      ∀ target, Steps p.tables e below (B.U.setTop { g with pc := g.pc + 3, stack := v.toList ++ rest }) target → Steps p.tables e below (T.setTop g) target) ∨
    (∃ (q : Addr) (vm₁ : Vm) (B : Pt), s.WarmedH vm₁ ∧ Stand p l e R s m args below meth c B.U B.locs B.cells B.slots ∧ PostX ⟨T.setVm vm₁, locs, cells, slots⟩ argsL.toArray q B ∧
      Steps p.tables e below (T.setTop g) ((B.U.setTop { g with stack := rest }).pushFrame (.throwing q))) := by
  obtain ⟨mk, methM, cM, hnamed, hmethM, -, -, -, -, -, -, hsigM⟩ := Cond.codeWith_spec hcode
  have hstatic : methM.isStatic = true := Cond.static_spec hnamed hmethM hstat
  obtain ⟨kP, hkP, -⟩ := className_of_methodNamed hnamed
  have hinitP : kP.init = .initialized := Cond.initialized_spec (findClass_of_methodNamed hnamed) hkP hinit
  obtain ⟨vm₁, X₁, hstep₁⟩ := X.invokestatic hexec hown hlink hnamed hmethM hstatic hkP hinitP hy (g := g) hg (argsL := argsL) (rest := rest) (hlen _ hsigM) hstack hdg
  rcases hK m meth c ⟨T.setVm vm₁, locs, cells, slots⟩ { g with stack := rest } (.invokestatic index) mk argsL.toArray X₁ hg hsize hdg hW (X₁.named hnamed) (hpre vm₁ X₁.warmed) with ⟨v, B, X', hpost, hsteps⟩ | ⟨q, B, X', hpost, hsteps⟩
  · exact Or.inl ⟨v, vm₁, B, X₁.warmed, X', hpost, fun target h => hstep₁ _ fun acts => by rw [doInvoke_state]; exact hsteps.trans h⟩
  · exact Or.inr ⟨q, vm₁, B, X₁.warmed, X', hpost, hstep₁ _ fun acts => by rw [doInvoke_state]; exact hsteps⟩
theorem vx_callVW (X : Stand p l e R s m args below meth c T locs cells slots) (hexec : p.tables.exec = Jvm.exec) {own C : String} {index : Nat} {y : MethodName} {bytes : ByteArray} {maxL : Nat} {ret : Option FieldType} {hh : List (Nat × Nat × Nat × Nat)}
    (hown : s.vm.findClass own = some m.cls) (hlink : (Cond.methodLink own index y).before args s = true) (hinst : (Cond.instanceMethod y).before args s = true) (hsel : (Cond.selects C y y).before args s = true)
    (hcode : (Cond.codeWith y bytes maxL ret hh).before args s = true) (hy : y.cls ≠ "java/lang/invoke/MethodHandle" ∧ y.cls ≠ "java/lang/invoke/VarHandle")
    {W9 : Nat} {Pre : Pt → Array Value → Prop} {Post : Pt → Array Value → Option Value → Pt → Prop} (hK : Back l R p e below s args y 3 W9 Pre Post)
    {b : Addr} {cellB : Cell} (hcell : T.heap[b]? = some cellB) (hobj : cellB.vm.isStatics = false) (hcls : s.vm.findClass C = some cellB.cls)
    {g : JFrame} (hg : g.method = m) (hsize : g.locals.size = c.maxLocals) {argsL rest : List Value} (hlen : ∀ sig, parseMethodDescriptor y.desc = some sig → argsL.length = sig.parameters.length)
    (hstack : g.stack = argsL.reverse ++ .ref b :: rest) (hW : 2 * g.monitorRoom + (rest.map fun v => v.category).sum ≤ W9) (hdg : decode c.code g.pc = .ok (.invokevirtual index, 3))
    (hpre : ∀ vm₁, s.WarmedH vm₁ → Pre ⟨T.setVm vm₁, locs, cells, slots⟩ (Value.ref b :: argsL).toArray) :
    ∃ (v : Option Value) (vm₁ : Vm) (B : Pt), s.WarmedH vm₁ ∧ Stand p l e R s m args below meth c B.U B.locs B.cells B.slots ∧ Post ⟨T.setVm vm₁, locs, cells, slots⟩ (Value.ref b :: argsL).toArray v B ∧
      ∀ target, Steps p.tables e below (B.U.setTop { g with pc := g.pc + 3, stack := v.toList ++ rest }) target → Steps p.tables e below (T.setTop g) target := by
  obtain ⟨mk, methM, hnamed, hmethM, hstM, habM⟩ := Cond.instanceMethod_spec hinst
  obtain ⟨m8, methM', cM, hn8, hmethM', -, -, -, -, -, -, hsigM⟩ := Cond.codeWith_spec hcode
  cases Option.some.inj (hn8.symm.trans hnamed)
  cases hmethM.symm.trans hmethM'
  obtain ⟨c2, r2, m2, q1, q2, q3, q4, kP, hkP, hkPi⟩ := Cond.selects_spec hsel
  cases hcls.symm.trans q1
  cases (State.methodFound?_of_named hnamed hy).symm.trans q2
  cases hnamed.symm.trans q3
  have hselP : selectMethod e.platform s.vm cellB.cls mk = .method mk := by rw [Launch.admits_selectMethod X.admits]; exact q4
  obtain ⟨vm₁, X₁, hstep₁⟩ := X.invokevirtual hexec hown hlink hnamed hmethM hstM hkP hkPi hy (a := b) (cell := cellB) hcell
    (fun z h => by rw [h] at hobj; cases hobj) hselP hmethM habM hkP hkPi (g := g) hg (argsL := argsL) (rest := rest) (hlen _ hsigM) hstack hdg
  obtain ⟨v, B, X', hpost, hsteps⟩ := hK m meth c ⟨T.setVm vm₁, locs, cells, slots⟩ { g with stack := rest } (.invokevirtual index) mk (Value.ref b :: argsL).toArray X₁ hg hsize hdg hW (X₁.named hnamed) (hpre vm₁ X₁.warmed)
  exact ⟨v, vm₁, B, X₁.warmed, X', hpost, fun target h => hstep₁ _ fun acts => by rw [doInvoke_state]; exact hsteps.trans h⟩
abbrev vx_CVW (R : Room) (s : State) (args : Array Value) (own C : String) (index : Nat) (y : MethodName) (bytes : ByteArray) (maxL : Nat) (ret : Option FieldType) (hh : List (Nat × Nat × Nat × Nat)) (ws : List Cond) (rm : Room) (mc ms n : Nat) : Prop :=
  (rm.cells = mc ∧ rm.slots = ms ∧ rm.frames + 1 ≤ R.frames ∧ 8 + (maxL + 11) + rm.locals ≤ R.locals ∧ (∀ w ∈ ws, ∀ (a' : Array Value) (U : State), s.WarmedH U.vm → w.before a' U = true) ∧ Cond.codeWith y bytes maxL ret hh ∈ ws) ∧
  (Cond.codeWith y bytes maxL ret hh).before args s = true ∧ (Cond.initialized y.cls).before args s = true ∧ (y.cls ≠ "java/lang/invoke/MethodHandle" ∧ y.cls ≠ "java/lang/invoke/VarHandle") ∧
  (∀ sig, parseMethodDescriptor y.desc = some sig → n = sig.parameters.length) ∧ (Cond.methodLink own index y).before args s = true ∧ (Cond.instanceMethod y).before args s = true ∧ (Cond.selects C y y).before args s = true
theorem vx_cwVW {own C : String} {index maxL mc ms : Nat} {y : MethodName} {bytes : ByteArray} {ret : Option FieldType} {hh : List (Nat × Nat × Nat × Nat)} {Ts ws ws' : List Cond} {rm : Room} (n : Nat) (ht : ∀ w ∈ Ts, w.before args s = true) (hT : GoodIn Ts (wsV own index C y ws)) (hw : ws = Cond.codeWith y bytes maxL ret hh :: ws') (hrc : rm.cells = mc) (hrs : rm.slots = ms)
    (hd : y.cls = C ∧ y.cls ≠ "java/lang/invoke/MethodHandle" ∧ y.cls ≠ "java/lang/invoke/VarHandle" ∧ (parseMethodDescriptor y.desc).map (fun d => d.parameters.length) = some n) (hR : rm.frames + 1 ≤ R.frames ∧ 8 + (maxL + 11) + rm.locals ≤ R.locals) :
    vx_CVW R s args own C index y bytes maxL ret hh ws rm mc ms n := by
  obtain ⟨hC, hd⟩ := hd
  subst hC
  have ok : ∀ w ∈ wsV own index y.cls y ws, w.before args s = true := fun w h => ht w (hT w h).1
  have hG : GoodIn Ts ws := fun w h => hT w (by unfold wsV; exact List.mem_append_right _ h)
  have hc : Cond.codeWith y bytes maxL ret hh ∈ ws := by rw [hw]; exact List.mem_cons_self
  refine ⟨⟨hrc, hrs, hR.1, hR.2, pay_in ht hG, hc⟩, ht _ (hG _ hc).1, ok _ (by simp [wsV]), ⟨hd.1, hd.2.1⟩, fun sig h => ?_, ok _ (by simp [wsV]), ok _ (by simp [wsV]), ok _ (by simp [wsV])⟩
  have h2 := hd.2.2
  rw [h] at h2
  exact (Option.some.inj h2).symm
theorem vx_runVW {y : MethodName} {bytes cc : ByteArray} {maxL nL mc ms n index : Nat} {ret : Option FieldType} {hh : List (Nat × Nat × Nat × Nat)} {ws : List Cond} {rm : Room} {Pc : Array Value → State → Prop} {Qc : Array Value → State → Outcome → State → Prop} {free : Addr → Prop} {Ts : List Cond} {own C : String} {b : Addr} {As rest : List Value} {g : JFrame}
    (S : CallFix p m c cc nL s args Ts own) (hM : Met l y ws rm Pc Qc mc ms free) (cw : vx_CVW R s args own C index y bytes maxL ret hh ws rm mc ms n) (hp : PreV s H C b Pc As)
    (hg : g.method = m) (hn : As.length = n) (hsize : g.locals.size = nL) (hstack : g.stack = As.reverse ++ .ref b :: rest) (hW : 2 * g.monitorRoom + (rest.map fun v => v.category).sum ≤ 8) (hdg : decode cc g.pc = .ok (.invokevirtual index, 3)) (hf : cells + mc ≤ R.cells ∧ slots + ms ≤ R.slots) :
    va_Run p l e R s m args below meth c H locs cells slots mc ms g rest (Qc (Value.ref b :: As).toArray) free := by
  obtain ⟨⟨hrc, hrs, hfr, hlo, hws, hcw⟩, hcode, hini, hy, hlen, hl, hin, hse⟩ := cw
  have hK : Back l R p e below s args y 3 8 (PreOf R mc ms Pc) (PostOf Qc mc ms free) := va_backW (hh := hh) (bytes := bytes) (maxL := maxL) (ret := ret) hM hp.1 hrc hrs hfr hlo hws hcw (fun a' U hW => word_at hW (Or.inl (by first | rfl | simp [Cond.onTables, Cond.keeps, Cond.steady])) hini)
  obtain ⟨hx, hb, hml, ho, -⟩ := S
  obtain ⟨-, ⟨cellB, hcB, hoB, hclB⟩, hPc⟩ := hp
  intro T hT X
  obtain ⟨v, vm₁, ⟨U', l2, c2, s2⟩, hW₁, X', ⟨g', mk, t, L, e1, e2, hq, h1, hL, h2, h3⟩, st⟩ := vx_callVW X hx (C := C) (hh := hh) (bytes := bytes) (maxL := maxL) (ret := ret) ho hl hin hse hcode hy hK (by rw [hT]; exact hcB) hoB hclB hg (hsize.trans hml.symm) (argsL := As) (rest := rest) (fun sig h => hn.trans (hlen sig h)) hstack hW (by rw [hb]; exact hdg)
    (fun vm₁ hW₁ => ⟨hf.1, hf.2, hPc (T.setVm vm₁) hT hW₁⟩)
  dsimp only [Pt.U, Pt.locs, Pt.cells, Pt.slots] at X' e1 e2 h1 h2 h3 st
  subst h1; subst h2; subst h3
  exact ⟨v, (T.setVm vm₁).calling g' mk (Value.ref b :: As).toArray, t, U', L, hT, X', hL, e1, e2, hq, st⟩
section
variable {y : MethodName} {bytes cc : ByteArray} {maxL nL mc ms n index : Nat} {ret : Option FieldType} {ws : List Cond} {rm : Room} {Pc : Array Value → State → Prop} {Qc : Array Value → State → Outcome → State → Prop} {XC : String → State → State → Prop} {free : Addr → Prop} {Ts : List Cond} {own C : String} {b : Addr} {As rest : List Value} {g : JFrame}
theorem vx_runVX {hh : List (Nat × Nat × Nat × Nat)} (S : CallFix p m c cc nL s args Ts own) (hM : vx_Met l y ws rm Pc Qc XC mc ms free) (cw : vx_CVW R s args own C index y bytes maxL ret hh ws rm mc ms n) (hp : PreV s H C b Pc As)
    (hg : g.method = m) (hn : As.length = n) (hsize : g.locals.size = nL) (hstack : g.stack = As.reverse ++ .ref b :: rest) (hW : 2 * g.monitorRoom + (rest.map fun v => v.category).sum ≤ 8) (hdg : decode cc g.pc = .ok (.invokevirtual index, 3)) (hf : cells + mc ≤ R.cells ∧ slots + ms ≤ R.slots) :
    vx_Run p l e R s m args below meth c H locs cells slots mc ms g rest (Qc (Value.ref b :: As).toArray) XC free := by
  obtain ⟨⟨hrc, hrs, hfr, hlo, hws, hcw⟩, hcode, hini, hy, hlen, hl, hin, hse⟩ := cw
  have hK : vx_Back l R p e below s args y 3 8 (PreOf R mc ms Pc) (PostOf Qc mc ms free) (vx_Post XC mc ms free) := vx_backW (hh := hh) (bytes := bytes) (maxL := maxL) (ret := ret) hM hp.1 hrc hrs hfr hlo hws hcw (fun a' U hW => word_at hW (Or.inl (by first | rfl | simp [Cond.onTables, Cond.keeps, Cond.steady])) hini)
  obtain ⟨hx, hb, hml, ho, -⟩ := S
  obtain ⟨-, ⟨cellB, hcB, hoB, hclB⟩, hPc⟩ := hp
  intro T hT X
  rcases vx_callVX X hx (C := C) (hh := hh) (bytes := bytes) (maxL := maxL) (ret := ret) ho hl hin hse hcode hy hK (by rw [hT]; exact hcB) hoB hclB hg (hsize.trans hml.symm) (argsL := As) (rest := rest) (fun sig h => hn.trans (hlen sig h)) hstack hW (by rw [hb]; exact hdg)
    (fun vm₁ hW₁ => ⟨hf.1, hf.2, hPc (T.setVm vm₁) hT hW₁⟩) with ⟨v, vm₁, ⟨U', l2, c2, s2⟩, hW₁, X', ⟨g', mk, t, L, e1, e2, hq, h1, hL, h2, h3⟩, st⟩ | ⟨q, vm₁, ⟨U', l2, c2, s2⟩, hW₁, X', ⟨g', mk, t, L, E, ce, e1, e2, hq, hce, hcv, hcl, h1, hL, h2, h3⟩, st⟩
  · dsimp only [Pt.U, Pt.locs, Pt.cells, Pt.slots] at X' e1 e2 h1 h2 h3 st
    subst h1; subst h2; subst h3
    exact Or.inl ⟨v, (T.setVm vm₁).calling g' mk (Value.ref b :: As).toArray, t, U', L, hT, X', hL, e1, e2, hq, st⟩
  · dsimp only [Pt.U, Pt.locs, Pt.cells, Pt.slots] at X' e1 e2 h1 h2 h3 st hcl
    subst h1; subst h2; subst h3
    exact Or.inr ⟨q, (T.setVm vm₁).calling g' mk (Value.ref b :: As).toArray, t, U', L, E, ce, hT, X', hL, e1, e2, hq, hce, hcv, vx_cls hW₁ hcl, st⟩
theorem vx_runSX {hh : List (Nat × Nat × Nat × Nat)} (S : CallFix p m c cc nL s args Ts own) (hM : vx_Met l y ws rm Pc Qc XC mc ms free) (cw : vx_CSW R s args own index y bytes maxL ret hh ws rm mc ms n) (hp : PreS s H Pc As)
    (hg : g.method = m) (hn : As.length = n) (hsize : g.locals.size = nL) (hstack : g.stack = As.reverse ++ rest) (hW : 2 * g.monitorRoom + (rest.map fun v => v.category).sum ≤ 8) (hdg : decode cc g.pc = .ok (.invokestatic index, 3)) (hf : cells + mc ≤ R.cells ∧ slots + ms ≤ R.slots) :
    vx_Run p l e R s m args below meth c H locs cells slots mc ms g rest (Qc As.toArray) XC free := by
  obtain ⟨⟨hrc, hrs, hfr, hlo, hws, hcw⟩, hcode, hini, hy, hlen, hl, hstt⟩ := cw
  have hK : vx_Back l R p e below s args y 3 8 (PreOf R mc ms Pc) (PostOf Qc mc ms free) (vx_Post XC mc ms free) := vx_backW (hh := hh) (bytes := bytes) (maxL := maxL) (ret := ret) hM hp.1 hrc hrs hfr hlo hws hcw (fun a' U hW => word_at hW (Or.inl (by first | rfl | simp [Cond.onTables, Cond.keeps, Cond.steady])) hini)
  obtain ⟨hx, hb, hml, ho, -⟩ := S
  intro T hT X
  rcases vx_callSX X hx (hh := hh) (bytes := bytes) (maxL := maxL) (ret := ret) ho hl hstt hini hcode hy hK hg (hsize.trans hml.symm) (argsL := As) (rest := rest) (fun sig h => hn.trans (hlen sig h)) hstack hW (by rw [hb]; exact hdg)
    (fun vm₁ hW₁ => ⟨hf.1, hf.2, hp.2 (T.setVm vm₁) hT hW₁⟩) with ⟨v, vm₁, ⟨U', l2, c2, s2⟩, hW₁, X', ⟨g', mk, t, L, e1, e2, hq, h1, hL, h2, h3⟩, st⟩ | ⟨q, vm₁, ⟨U', l2, c2, s2⟩, hW₁, X', ⟨g', mk, t, L, E, ce, e1, e2, hq, hce, hcv, hcl, h1, hL, h2, h3⟩, st⟩
  · dsimp only [Pt.U, Pt.locs, Pt.cells, Pt.slots] at X' e1 e2 h1 h2 h3 st
    subst h1; subst h2; subst h3
    exact Or.inl ⟨v, (T.setVm vm₁).calling g' mk As.toArray, t, U', L, hT, X', hL, e1, e2, hq, st⟩
  · dsimp only [Pt.U, Pt.locs, Pt.cells, Pt.slots] at X' e1 e2 h1 h2 h3 st hcl
    subst h1; subst h2; subst h3
    exact Or.inr ⟨q, (T.setVm vm₁).calling g' mk As.toArray, t, U', L, E, ce, hT, X', hL, e1, e2, hq, hce, hcv, vx_cls hW₁ hcl, st⟩
end
end VXH
theorem vx_ofWH {l : Launch} {y : MethodName} {ws ws' : List Cond} {rm : Room} {Pc : Array Value → State → Prop} {Qc : Array Value → State → Outcome → State → Prop} {XC : String → State → State → Prop} {mc ms : Nat} {free : Addr → Prop} {cc : ByteArray} {maxL : Nat} {ret : Option FieldType} {hh : List (Nat × Nat × Nat × Nat)}
    (hy : plainName y.cls = true) (hw : ws = Cond.codeWith y cc maxL ret hh :: ws')
    (body : ∀ p e s m args below meth c s₁, BodyLoose p l y (headSpec ws rm) cc maxL ret e s m args below meth c s₁ → c.maxLocals = maxL → Pc args s →
      W p l e (headSpec ws rm).room s m args below meth c s.heap [] 0 0 (vx_MQ below Qc XC args s mc ms free) (entryFrame m args maxL)) : vx_Met l y ws rm Pc Qc XC mc ms free := by
  refine MetFree.of_bodyS (code := cc) (maxLocals := maxL) (ret := ret) hy ?_ ?_
  · intro args s m h hn
    obtain ⟨m9, meth, c, hn9, h1, h2, h3, h4, -, h5, h6, -⟩ := Cond.codeWith_spec (atoms_spec (ws := ws) h _ (by rw [hw]; exact List.mem_cons_self))
    cases hn.symm.trans hn9
    exact ⟨meth, c, h1, h2, h3, h4, h5, h6⟩
  · intro p e s m args below meth c s₁ B hml hP _
    have hh0 : s₁.heap = s.heap := by rw [B.state]; rfl
    obtain ⟨t, a1, o, b1, b2, b3⟩ := body p e s m args below meth c s₁ B hml hP s₁ hh0 (Stand.of_body B)
    exact ⟨t, o, a1, b1, b2, b3⟩
/-! ===== END ===== -/

/-! ===== BEGIN what the machine throws by itself, no traces kept ===== -/
section VXM
set_option maxHeartbeats 1000000 in
/-- the machine throws cls with the message text, no traces kept: from its note over the frame g to 'throwing' over the same frame (follows the proofs of Stand.vmThrowsMessage, Shelf/KitTracedVmS.lean, and Stand.throwsMessageColdBareV, StandMessageColdV.lean, without the step out of the frame) -/
theorem vx_vmAt {p : Program} {l : Launch} {e : Env} {R : Room} {s : State} {m₀ : MethodId} {args : Array Value} {below : List Frame} {meth : Method} {c : Code} {W : State} {locs : List Loc} {cells slots : Nat}
    (X : Stand p l e R s m₀ args below meth c W locs cells slots) (hexec : p.tables.exec = Jvm.exec) (htr : e.platform.stackTraces = false) {cls : String} {names : List String} {text : String}
    (hcls : Bundle.fit cls = true) (hnames : ∀ n ∈ names, Bundle.fit n = true) (hsoe : (cls == "java/lang/StackOverflowError") = false) (hoom : (cls == "java/lang/OutOfMemoryError") = false)
    (h : ∀ a ∈ Bundle.messageArmAtoms cls names, a.before args s = true)
    (hlocs : ∀ x ∈ locs, ∀ cell, s.heap[x.base]? = some cell → cell.vm.isStatics = false)
    (htext : (text == notModelled) = false) (hlimit : ¬ (stringBytes (stringToUtf16 text)).size > e.platform.arrayLengthLimit) (hheap : ¬ (stringBytes (stringToUtf16 text)).size * componentBytes .byte > e.platform.maxHeapBytes)
    {g : JFrame} (hg : g.method = m₀) (hsize : g.locals.size = c.maxLocals)
    (hRframes : names.length + 4 < R.frames) (hRlocals : 2 * g.monitorRoom + (g.stack.map fun v => v.category).sum + 10240 ≤ R.locals) (hshort : 13 * names.length + 55 ≤ 10240)
    (hRcells : cells + 3 ≤ R.cells) (hRslots : slots + ((stringBytes (stringToUtf16 text)).size + 4 + 6) ≤ R.slots) (hlocks : meth.locks = false) :
    ∃ (S : State) (q : Addr) (ce : Cell), (∀ target, Steps p.tables e below ((S.setTop g).pushFrame (.throwing q)) target → Steps p.tables e below ((W.setTop g).pushFrame (.throwNew cls (some text) none)) target) ∧
      Stand p l e R s m₀ args below meth c S locs (cells + 3) (slots + ((stringBytes (stringToUtf16 text)).size + 4 + 6)) ∧ S.heap[q]? = some ce ∧ s.vm.findClass cls = some ce.cls ∧ ce.vm = .none := by
  have howns : e.platform.frameOwnsMonitors = true := by rw [X.admits.platform]
  have hfin : e.platform.finalization = false := by rw [X.admits.platform]
  have hpl : e.platform.magicAccessors = ({} : Platform).magicAccessors := by rw [X.admits.platform]
  have a : ∀ x, x ∈ Bundle.messageArmAtoms cls names → x.holds args s none s [] = true := fun x hx => h x hx
  obtain ⟨T, Z0, L, -, Y⟩ := ThrowableC.of_atoms (args := args) howns hfin hpl (fun x hx => h x (by simp [Bundle.messageArmAtoms, hx]))
  obtain ⟨Z, M, LZ, LM, hnZ⟩ := Init0T.ofS_atoms (args := args) hpl L Y (fun x hx => h x (by simp [Bundle.messageArmAtoms, hx]))
  obtain ⟨P1, Ps, hlen, L1, hL, hP1m, hlink1, hlink⟩ := Bundle.chainS (args := args) hpl hnZ names cls hcls hnames (fun x hx => h x (by simp [Bundle.messageArmAtoms, hx]))
  obtain ⟨Zs, LZs, hn4, hfitv, hfitc⟩ := StringT.of_atoms (args := args) (fun x hx => h x (by simp [Bundle.messageArmAtoms, hx]))
  have hfound : s.vm.findClass cls = some P1.m.cls := findClass_of_methodNamed hP1m
  obtain ⟨c1, kX, hc1, hk, hord, -, -, hn6⟩ := Cond.instantiable_spec (a (.instantiable cls 6) (by simp [Bundle.messageArmAtoms]))
  cases Option.some.inj (hc1.symm.trans hfound)
  have hinit := Cond.initialized_spec hfound hk (a (.initialized cls) (by simp [Bundle.messageArmAtoms]))
  have hctor : kX.findMethod "<init>" "(Ljava/lang/String;)V" = some P1.m.idx := findMethod_of_methodNamed hP1m hk
  have hsel0 : selectMethod e.platform s.vm P1.m.cls T.fill0 = .method T.fill0 := by
    obtain ⟨c2, r2, m2, q1, q2, q3, q4, -⟩ := Cond.selects_spec (a (.selects cls Bundle.tFill0 Bundle.tFill0) (by simp [Bundle.messageArmAtoms]))
    cases Option.some.inj (q1.symm.trans hfound)
    cases Option.some.inj (q2.symm.trans (State.methodFound?_of_named Y.fill0 (by decide)))
    cases Option.some.inj (q3.symm.trans Y.fill0)
    rw [Launch.admits_selectMethod X.admits]; exact q4
  have hselF : selectMethod e.platform s.vm P1.m.cls T.fill = .method T.fill := by
    obtain ⟨c2, r2, m2, q1, q2, q3, q4, -⟩ := Cond.selects_spec (a (.selects cls Bundle.tFill Bundle.tFill) (by simp [Bundle.messageArmAtoms]))
    cases Option.some.inj (q1.symm.trans hfound)
    cases Option.some.inj (q2.symm.trans (State.methodFound?_of_named Y.fill (by decide)))
    cases Option.some.inj (q3.symm.trans Y.fill)
    rw [Launch.admits_selectMethod X.admits]; exact q4
  obtain ⟨cellS0, hcS0, hiss⟩ := Y.statics
  obtain ⟨u0, hu0⟩ := Cond.staticRefV Y.unassigned L.unassignedStatic L.statics hcS0 hiss (a (.isRef (.static Bundle.tN "UNASSIGNED_STACK" Bundle.steD)) (by simp [Bundle.messageArmAtoms]))
  obtain ⟨sen, hsen⟩ := Cond.staticRefV Y.sentinel L.sentinelStatic L.statics hcS0 hiss (a (.isRef (.static Bundle.tN "SUPPRESSED_SENTINEL" Bundle.listD)) (by simp [Bundle.messageArmAtoms]))
  obtain ⟨ci198, i198, fB, hk198, hg198, ha198, hsB, -, hnB, htB, hffB⟩ := Cond.ownField (t := .object "java/lang/Object") Y.found L.cls (by decide +kernel) (a (.fieldLink Bundle.tN 198 Bundle.tN "backtrace" "Ljava/lang/Object;") (by simp [Bundle.messageArmAtoms])) (a (.lays Bundle.tN Bundle.tN "backtrace" "Ljava/lang/Object;") (by simp [Bundle.messageArmAtoms])) e.platform hpl
  obtain ⟨cellS, hcS', heS, -, hkeep⟩ := X.same.2.2.2.2.2 T.aS cellS0 hcS0
  have hcellS : W.heap[T.aS]? = some cellS := hcS'
  have hout' : ∀ i, (⟨T.aS, i⟩ : Loc) ∉ locs := fun i hmem => by
    have := hlocs _ hmem cellS0 hcS0
    rw [hiss] at this; cases this
  have hknownS : cellS.vm ≠ .unknown := by
    rw [heS]; intro hu
    rw [show cellS0.vm = .unknown from hu] at hiss
    cases hiss
  have hvU : cellS.slots[T.fUnassigned.slot]? = some u0.v := by rw [hkeep _ (hout' _)]; exact hu0
  have hvSen : cellS.slots[T.fSentinel.slot]? = some sen.v := by rw [hkeep _ (hout' _)]; exact hsen
  obtain ⟨iM, hffM⟩ := Y.msg
  obtain ⟨tyC, dC, hdC, hdnC⟩ := Cond.laysAt hfound hk Y.cause (a (.lays cls Bundle.tN "cause" "Ljava/lang/Throwable;") (by simp [Bundle.messageArmAtoms]))
  obtain ⟨tyS, dS, hdS, hdnS⟩ := Cond.laysAt hfound hk Y.stack (a (.lays cls Bundle.tN "stackTrace" Bundle.steD) (by simp [Bundle.messageArmAtoms]))
  obtain ⟨tyP, dP, hdP, hdnP⟩ := Cond.laysAt hfound hk Y.supp (a (.lays cls Bundle.tN "suppressedExceptions" Bundle.listD) (by simp [Bundle.messageArmAtoms]))
  obtain ⟨tyM, dM, hdM, hdnM⟩ := Cond.laysAt hfound hk hffM (a (.lays cls Bundle.tN "detailMessage" "Ljava/lang/String;") (by simp [Bundle.messageArmAtoms]))
  obtain ⟨tyB, dB, hdB, hdnB⟩ := Cond.laysAt hfound hk hffB (a (.lays cls Bundle.tN "backtrace" "Ljava/lang/Object;") (by simp [Bundle.messageArmAtoms]))
  have bC := Cond.laysApart hdB hdC hdnB hdnC (by rw [hnB, Y.causeName]; decide)
  have bS := Cond.laysApart hdB hdS hdnB hdnS (by rw [hnB, Y.stackName]; decide)
  have bP := Cond.laysApart hdB hdP hdnB hdnP (by rw [hnB, Y.suppName]; decide)
  have hbk : ((preparedCellV T.toThrowableT (freshCell P1.m.cls kX) (W.heap.size + 2) u0 sen).withEntry W.cur).slots[fB.slot]? = some .null := by
    have := fresh_default (c := P1.m.cls) tyB
    rw [htB] at this
    simpa [preparedCellV, Cell.setSlot, Cell.withEntry, Array.getElem?_setIfInBounds, bC, bS, bP, bC.symm, bS.symm, bP.symm, defaultValue] using this
  have tkC := Takes.of_laid (v := .ref (W.heap.size + 2)) hk hord tyC (by rw [Y.causeType]; rfl)
  have tkS := Takes.of_laid (v := u0.v) hk hord tyS (by rw [Y.stackType]; exact fits_refV_array _ u0)
  have tkP := Takes.of_laid (v := sen.v) hk hord tyP (by rw [Y.suppType]; exact fits_refV_object _ sen)
  have tkM := Takes.of_laid (v := .ref (W.heap.size + 1)) hk hord tyM (by rw [Y.msgType]; rfl)
  have hskip : SkipFacts T e.platform s (fun u => u) u0 ((preparedCellV T.toThrowableT (freshCell P1.m.cls kX) (W.heap.size + 2) u0 sen).withEntry W.cur) := ⟨{ ci198 := ci198, i198 := i198, fBack := fB }, ⟨hk198, hg198, ha198, hsB⟩, hbk, fun _ _ => rfl⟩
  have h0 : At W g.method c below := by rw [hg]; exact X.here
  obtain ⟨hbeyond, hfreeW⟩ := X.vmMayThrow hsize (.throwNew cls (some text) none) (fun f hf => by cases hf) rfl hRlocals
  have hfr' : W.frames.length + Ps.length + 4 < (e.platform.stackLimits W.me).1 := by have := X.framesAbove hRframes; omega
  have hwd' : (stackUse (.java g :: W.frames.tail)).2 + 13 * Ps.length + 55 ≤ (e.platform.stackLimits W.me).2 := by have := X.stackAbove hsize (K := 13 * Ps.length + 55) (by omega); omega
  have hslots : W.slotsUsed + (stringBytes (stringToUtf16 text)).size + Zs.kS.instanceTypes.size + kX.instanceTypes.size ≤ e.platform.maxSlots := by
    have := X.slotsAbove hRslots
    rw [hn4, hn6]
    omega
  obtain ⟨vm', hW', st⟩ := Steps.vmThrowsMessageColdByV p (s₀ := s) (S := W) (g := g) h0 hexec T L Z LZ M LM X.warmed (t := W.cur) rfl Zs LZs P1 L1 Ps hL hlink1 hlink hsoe hoom hfound hk hinit hord hctor
    (Launch.admits_hotImplicitExceptions X.admits) hbeyond hfreeW htext hlimit hheap (X.cellsAbove hRcells) hslots (hfitv _) (hfitc _)
    (Nn := fun u => u) heapOnly_id (fun _ _ => rfl) (fun _ => rfl) (fun u x y => setCell_twice _ _ _ _) (fun _ => Nat.le_refl _) (cN := ((preparedCellV T.toThrowableT (freshCell P1.m.cls kX) (W.heap.size + 2) u0 sen).withEntry W.cur))
    hsel0 hcellS hknownS hvU tkS (fun _ hu => hu) (fun _ hu => hu) rfl rfl rfl (by simp [preparedCellV, Cell.setSlot, Cell.withEntry]) hskip (fun _ _ hA hW _ hroom _ hrest => L.nativeOff p htr hA hW hroom hrest) hselF hvSen tkC tkP tkM Y.objLocals rfl hfr' hwd'
  rw [plainBareV_eq T.toThrowableT (W.heap.size + 2) u0 sen (.ref (W.heap.size + 1)) W.cur rfl rfl] at st
  obtain ⟨-, -, w3, w4, -, -, -⟩ := withThrown_facts e.platform W Zs text P1.m.cls kX
  have X3 := ((X.pushed (bytesOf Zs.cB (stringToUtf16 text))).pushed (stringAt Zs.cS Zs.kS Zs.fv Zs.fc (stringToUtf16 text) W.heap.size)).pushed (freshCell P1.m.cls kX)
  rw [← withString_eq] at X3
  have X4 := X3.noted hW'
  have ha : (W.heap.size + 2) < ((withThrown W Zs text P1.m.cls kX).setVm vm').heap.size := by show _ < (withThrown W Zs text P1.m.cls kX).heap.size; rw [w3]; omega
  have hcell : ((withThrown W Zs text P1.m.cls kX).setVm vm').heap[(W.heap.size + 2)]? = some (freshCell P1.m.cls kX) := w4
  have X5 := ((((X4.stored hcell T.fCause.slot (.ref (W.heap.size + 2))).storedAgain ha T.fStack.slot u0.v).storedAgain ha T.fSupp.slot sen.v).storedAgain ha T.fStack.slot u0.v).storedAgain ha T.fMsg.slot (.ref (W.heap.size + 1))
  obtain ⟨g₁, hfrM⟩ := X5.frames_eq
  have hU : ((((withThrown W Zs text P1.m.cls kX).setVm vm').setCell (W.heap.size + 2) (plainBareV T.toThrowableT (freshCell P1.m.cls kX) (W.heap.size + 2) u0 sen (.ref (W.heap.size + 1)))).setTop g).pushFrame (.throwing (W.heap.size + 2)) = (((withThrown W Zs text P1.m.cls kX).setVm vm').setCell (W.heap.size + 2) (plainBareV T.toThrowableT (freshCell P1.m.cls kX) (W.heap.size + 2) u0 sen (.ref (W.heap.size + 1)))).setFrames (.throwing (W.heap.size + 2) :: .java g :: below) := by
    rw [State.pushFrame, State.frames_setTop _ hfrM, State.setTop_of_frames _ hfrM, State.setFrames_setFrames]
  have b1 : (bytesOf Zs.cB (stringToUtf16 text)).slots.size = (stringBytes (stringToUtf16 text)).size := by
    rw [(Cell.writeAll_facts _ _).2.2]; simp [bytes0]
  have b2 : (stringAt Zs.cS Zs.kS Zs.fv Zs.fc (stringToUtf16 text) W.heap.size).slots.size = 4 := by simp [string0, Cell.setSlot, hn4]
  have b3 : (freshCell P1.m.cls kX).slots.size = 6 := by simp [hn6]
  rw [b1, b2, b3] at X5
  have e9 : slots + (stringBytes (stringToUtf16 text)).size + 4 + 6 = slots + ((stringBytes (stringToUtf16 text)).size + 4 + 6) := by omega
  rw [e9] at X5
  simp only [List.append_assoc, List.cons_append, List.nil_append] at X5
  refine ⟨((withThrown W Zs text P1.m.cls kX).setVm vm').setCell (W.heap.size + 2) (plainBareV T.toThrowableT (freshCell P1.m.cls kX) (W.heap.size + 2) u0 sen (.ref (W.heap.size + 1))), W.heap.size + 2, _, fun target ht => st _ (by rw [X.tail, ← hU]; exact ht),
    X5.forget (fun y hy => ?_), heapAt_setCell_self _ ha, hfound, rfl⟩
  simp only [List.mem_cons, List.not_mem_nil, or_false] at hy
  have hge : s.heap.size ≤ W.heap.size := X.same.2.1
  rcases hy with rfl | rfl | rfl | rfl | rfl <;> exact Nat.le_trans hge (Nat.le_add_right _ 2)
set_option maxHeartbeats 1000000 in
/-- the machine throws NullPointerException, no traces kept: from its note over the frame g to 'throwing' over the same frame (follows the proof of Stand.vmThrowsNpe, Shelf42/KT2.lean; throwsNpeColdBareVAt, Shelf42/NT91.lean, called) -/
theorem vx_npeAt {p : Program} {l : Launch} {e : Env} {R : Room} {s : State} {m₀ : MethodId} {args : Array Value} {below : List Frame} {meth : Method} {c : Code} {W : State} {locs : List Loc} {cells slots : Nat}
    (X : Stand p l e R s m₀ args below meth c W locs cells slots) (hexec : p.tables.exec = Jvm.exec) (htr : e.platform.stackTraces = false) {n : Nat}
    (h : ∀ a ∈ Bundle.npeArmAtoms n, a.before args s = true)
    (hlocs : ∀ x ∈ locs, ∀ cell, s.heap[x.base]? = some cell → cell.vm.isStatics = false)
    {g : JFrame} (hg : g.method = m₀) (hsize : g.locals.size = c.maxLocals)
    (hRframes : 7 < R.frames) (hRlocals : 2 * g.monitorRoom + (g.stack.map fun v => v.category).sum + 10240 ≤ R.locals)
    (hRcells : cells + 1 ≤ R.cells) (hRslots : slots + n ≤ R.slots) (hlocks : meth.locks = false) :
    ∃ (S : State) (q : Addr) (ce : Cell), (∀ target, Steps p.tables e below ((S.setTop g).pushFrame (.throwing q)) target → Steps p.tables e below ((W.setTop g).pushFrame (.throwNew "java/lang/NullPointerException" none none)) target) ∧
      Stand p l e R s m₀ args below meth c S locs (cells + 1) (slots + n) ∧ S.heap[q]? = some ce ∧ s.vm.findClass "java/lang/NullPointerException" = some ce.cls ∧ ce.vm = .none := by
  have howns : e.platform.frameOwnsMonitors = true := by rw [X.admits.platform]
  have hfin : e.platform.finalization = false := by rw [X.admits.platform]
  have hpl : e.platform.magicAccessors = ({} : Platform).magicAccessors := by rw [X.admits.platform]
  have hpl2 : e.platform.arrayCloneIsPublic = true := by rw [X.admits.platform]
  have a' : ∀ x, x ∈ Bundle.npeArmAtoms n → x.holds args s none s [] = true := fun x hx => h x hx
  obtain ⟨T, Z, L, LZ, Y⟩ := ThrowableC.of_atoms (args := args) howns hfin hpl (fun x hx => h x (by simp [Bundle.npeArmAtoms, hx]))
  obtain ⟨N, LN, hcN, hnNF, hordN, hffS⟩ := NpeC.of_atoms (args := args) hpl hpl2 L Y (fun x hx => h x (by simp [Bundle.npeArmAtoms, hx]))
  obtain ⟨P1, L1, hP1m, hP1s⟩ := PassC.of_atoms (args := args) (s := s) hpl (X := Bundle.nN) (Y := Bundle.rN) (by decide) (by decide) LibCode.NullPointerException.Init0.at_0 LibCode.NullPointerException.Init0.at_1 LibCode.NullPointerException.Init0.at_4 (fun x hx => h x (by simp [Bundle.npeArmAtoms, hx]))
  obtain ⟨PR, LR, hPRm, hPRs⟩ := PassC.of_atoms (args := args) (s := s) hpl (X := Bundle.rN) (Y := Bundle.eN) (by decide) (by decide) LibCode.RuntimeException.Init0.at_0 LibCode.RuntimeException.Init0.at_1 LibCode.RuntimeException.Init0.at_4 (fun x hx => h x (by simp [Bundle.npeArmAtoms, hx]))
  obtain ⟨PE, LEx, hPEm, hPEs⟩ := PassC.of_atoms (args := args) (s := s) hpl (X := Bundle.eN) (Y := Bundle.tN) (by decide) (by decide) LibCode.Exception.Init0.at_0 LibCode.Exception.Init0.at_1 LibCode.Exception.Init0.at_4 (fun x hx => h x (by simp [Bundle.npeArmAtoms, hx]))
  have hfound : s.vm.findClass Bundle.nN = some P1.m.cls := findClass_of_methodNamed hP1m
  have ecls : N.cN = P1.m.cls := Option.some.inj (hcN.symm.trans hfound)
  have hk : s.vm.classes[P1.m.cls]? = some N.kN := by rw [← ecls]; exact LN.cls
  have hinit := Cond.initialized_spec hfound hk (a' (.initialized Bundle.nN) (by simp [Bundle.npeArmAtoms]))
  have hctor : N.kN.findMethod "<init>" "()V" = some P1.m.idx := findMethod_of_methodNamed hP1m hk
  obtain ⟨c1, k1, hc1, hk1, -, -, -, hn⟩ := Cond.instantiable_spec (a' (.instantiable Bundle.nN n) (by simp [Bundle.npeArmAtoms]))
  cases Option.some.inj (hc1.symm.trans hfound)
  cases Option.some.inj (hk1.symm.trans hk)
  have hfsz : (freshCell P1.m.cls N.kN).slots.size = n := by simp [hn]
  have hlink1 : P1.sup = PR.m := Option.some.inj (hP1s.symm.trans hPRm)
  have hlinkR : PR.sup = PE.m := Option.some.inj (hPRs.symm.trans hPEm)
  have hlinkE : PE.sup = Z.m T.toThrowableT := Option.some.inj (hPEs.symm.trans Y.init0)
  have hLs : ∀ P, P ∈ [PR, PE] → P.Links0 e.platform s := fun P hP => by
    simp only [List.mem_cons, List.not_mem_nil, or_false] at hP
    rcases hP with rfl | rfl
    · exact LR
    · exact LEx
  have hsel0 : selectMethod e.platform s.vm P1.m.cls T.fill0 = .method T.fill0 := by
    obtain ⟨c2, r2, m2, q1, q2, q3, q4, -⟩ := Cond.selects_spec (a' (.selects Bundle.nN Bundle.tFill0 Bundle.tFill0) (by simp [Bundle.npeArmAtoms]))
    cases Option.some.inj (q1.symm.trans hfound)
    cases Option.some.inj (q2.symm.trans (State.methodFound?_of_named Y.fill0 (by decide)))
    cases Option.some.inj (q3.symm.trans Y.fill0)
    rw [Launch.admits_selectMethod X.admits]; exact q4
  have hselF : selectMethod e.platform s.vm P1.m.cls T.fill = .method N.fill := by
    obtain ⟨c2, r2, m2, q1, q2, q3, q4, -⟩ := Cond.selects_spec (a' (.selects Bundle.nN Bundle.tFill Bundle.nFill) (by simp [Bundle.npeArmAtoms]))
    cases Option.some.inj (q1.symm.trans hfound)
    cases Option.some.inj (q2.symm.trans (State.methodFound?_of_named Y.fill (by decide)))
    cases Option.some.inj (q3.symm.trans hnNF)
    rw [Launch.admits_selectMethod X.admits]; exact q4
  obtain ⟨cellS0, hcS0, hiss⟩ := Y.statics
  obtain ⟨u0, hu0⟩ := Cond.staticRefV Y.unassigned L.unassignedStatic L.statics hcS0 hiss (a' (.isRef (.static Bundle.tN "UNASSIGNED_STACK" Bundle.steD)) (by simp [Bundle.npeArmAtoms]))
  obtain ⟨sen, hsen⟩ := Cond.staticRefV Y.sentinel L.sentinelStatic L.statics hcS0 hiss (a' (.isRef (.static Bundle.tN "SUPPRESSED_SENTINEL" Bundle.listD)) (by simp [Bundle.npeArmAtoms]))
  obtain ⟨ci198, i198, fB, hk198, hg198, ha198, hsB, -, hnB, htB, hffB⟩ := Cond.ownField (t := .object "java/lang/Object") Y.found L.cls (by decide +kernel) (a' (.fieldLink Bundle.tN 198 Bundle.tN "backtrace" Bundle.objD) (by simp [Bundle.npeArmAtoms])) (a' (.lays Bundle.tN Bundle.tN "backtrace" Bundle.objD) (by simp [Bundle.npeArmAtoms])) e.platform hpl
  obtain ⟨cellS, hcS', heS, -, hkeep⟩ := X.same.2.2.2.2.2 T.aS cellS0 hcS0
  have hcellS : W.heap[T.aS]? = some cellS := hcS'
  have hout' : ∀ i, (⟨T.aS, i⟩ : Loc) ∉ locs := fun i hmem => by
    have := hlocs _ hmem cellS0 hcS0
    rw [hiss] at this; cases this
  have hknownS : cellS.vm ≠ .unknown := by
    rw [heS]; intro hu
    rw [show cellS0.vm = .unknown from hu] at hiss
    cases hiss
  have hvU : cellS.slots[T.fUnassigned.slot]? = some u0.v := by rw [hkeep _ (hout' _)]; exact hu0
  have hvSen : cellS.slots[T.fSentinel.slot]? = some sen.v := by rw [hkeep _ (hout' _)]; exact hsen
  obtain ⟨tyC, dC, hdC, hdnC⟩ := Cond.laysAt hfound hk Y.cause (a' (.lays Bundle.nN Bundle.tN "cause" "Ljava/lang/Throwable;") (by simp [Bundle.npeArmAtoms]))
  obtain ⟨tyS, dS, hdS, hdnS⟩ := Cond.laysAt hfound hk Y.stack (a' (.lays Bundle.nN Bundle.tN "stackTrace" Bundle.steD) (by simp [Bundle.npeArmAtoms]))
  obtain ⟨tyP, dP, hdP, hdnP⟩ := Cond.laysAt hfound hk Y.supp (a' (.lays Bundle.nN Bundle.tN "suppressedExceptions" Bundle.listD) (by simp [Bundle.npeArmAtoms]))
  obtain ⟨tyX, dX, hdX, hdnX⟩ := Cond.laysAt hfound hk hffS (a' (.lays Bundle.nN Bundle.nN "extendedMessageState" "I") (by simp [Bundle.npeArmAtoms, Bundle.npeAtoms]))
  obtain ⟨hnX, htX⟩ := State.fieldFound?_type hffS (t := .int) (by decide +kernel)
  have xC := Cond.laysApart hdC hdX hdnC hdnX (by rw [hnX, Y.causeName]; decide)
  have xS := Cond.laysApart hdS hdX hdnS hdnX (by rw [hnX, Y.stackName]; decide)
  have xP := Cond.laysApart hdP hdX hdnP hdnX (by rw [hnX, Y.suppName]; decide)
  have hv0 : (freshCell P1.m.cls N.kN).slots[N.fState.slot]? = some (.int 0) := by
    have := fresh_default (c := P1.m.cls) tyX
    rw [htX] at this; exact this
  obtain ⟨tyB, dB, hdB, hdnB⟩ := Cond.laysAt hfound hk hffB (a' (.lays Bundle.nN Bundle.tN "backtrace" Bundle.objD) (by simp [Bundle.npeArmAtoms]))
  have bC := Cond.laysApart hdB hdC hdnB hdnC (by rw [hnB, Y.causeName]; decide)
  have bS := Cond.laysApart hdB hdS hdnB hdnS (by rw [hnB, Y.stackName]; decide)
  have bP := Cond.laysApart hdB hdP hdnB hdnP (by rw [hnB, Y.suppName]; decide)
  have bX := Cond.laysApart hdB hdX hdnB hdnX (by rw [hnB, hnX]; decide)
  have hbk : ((npeCell N.toNpeT (preparedCellV T.toThrowableT (freshCell P1.m.cls N.kN) W.heap.size u0 sen) W.cur).withEntry W.cur).slots[fB.slot]? = some .null := by
    have := fresh_default (c := P1.m.cls) tyB
    rw [htB] at this
    simpa [npeCell, preparedCellV, Cell.setSlot, Cell.withEntry, Array.getElem?_setIfInBounds, bC, bS, bP, bX, bC.symm, bS.symm, bP.symm, bX.symm, defaultValue] using this
  have tkC := Takes.of_laid (v := .ref W.heap.size) hk hordN tyC (by rw [Y.causeType]; rfl)
  have tkS := Takes.of_laid (v := u0.v) hk hordN tyS (by rw [Y.stackType]; exact fits_refV_array _ u0)
  have tkP := Takes.of_laid (v := sen.v) hk hordN tyP (by rw [Y.suppType]; exact fits_refV_object _ sen)
  have tkX := Takes.of_laid (v := .int 1) hk hordN tyX (by rw [htX]; rfl)
  have hskip : SkipFacts T e.platform s (fun u => u) u0 ((npeCell N.toNpeT (preparedCellV T.toThrowableT (freshCell P1.m.cls N.kN) W.heap.size u0 sen) W.cur).withEntry W.cur) := ⟨{ ci198 := ci198, i198 := i198, fBack := fB }, ⟨hk198, hg198, ha198, hsB⟩, hbk, fun _ _ => rfl⟩
  obtain ⟨vm', X3, st, -⟩ := X.throwsNpeColdBareVAt hexec hg hsize T L Z LZ N LN P1 L1 [PR, PE] hLs hlink1 ⟨hlinkR, hlinkE, trivial⟩ hfound hk hinit hordN hctor hsel0 hselF hcellS hknownS hvU hvSen
    hv0 xC xS xP tkC tkS tkP tkX Y.objLocals hskip (fun _ _ hA hW _ hroom _ hrest => L.nativeOff p htr hA hW hroom hrest) (by simpa using hRframes) hRlocals (by simp) hRcells (by rw [hn]; exact hRslots)
  have hlt : W.heap.size < ((W.pushCell (freshCell P1.m.cls N.kN)).setVm vm').heap.size := by
    show W.heap.size < (W.pushCell (freshCell P1.m.cls N.kN)).heap.size
    rw [State.heap_size_pushCell]; omega
  rw [hfsz] at X3
  obtain ⟨g₁, hfrM⟩ := X3.frames_eq
  have hU : ((((W.pushCell (freshCell P1.m.cls N.kN)).setVm vm').setCell W.heap.size (npeBareV T.toThrowableT N.toNpeT (freshCell P1.m.cls N.kN) W.heap.size u0 sen)).setTop g).pushFrame (.throwing W.heap.size) = (((W.pushCell (freshCell P1.m.cls N.kN)).setVm vm').setCell W.heap.size (npeBareV T.toThrowableT N.toNpeT (freshCell P1.m.cls N.kN) W.heap.size u0 sen)).setFrames (.throwing W.heap.size :: .java g :: below) := by
    rw [State.pushFrame, State.frames_setTop _ hfrM, State.setTop_of_frames _ hfrM, State.setFrames_setFrames]
  refine ⟨_, W.heap.size, _, fun target ht => st.trans (by rw [← hU]; exact ht), X3.forget (fun y hy => ?_), heapAt_setCell_self _ hlt, hfound, rfl⟩
  simp only [List.mem_cons, List.not_mem_nil, or_false] at hy
  have hge : s.heap.size ≤ W.heap.size := X.same.2.1
  rcases hy with rfl | rfl | rfl | rfl | rfl <;> exact hge
/-- the words of a machine's NullPointerException, but the four that speak of the heap -/
def vx_atN (n : Nat) : List Cond := (Bundle.npeArmAtoms n).filter vx_no
/-- the words of a machine's throw with a message, but the four that speak of the heap -/
def vx_atM (X : String) (names : List String) : List Cond := (Bundle.messageArmAtoms X names).filter vx_no
section
variable {p : Program} {l : Launch} {e : Env} {R : Room} {s : State} {m : MethodId} {args : Array Value} {below : List Frame} {meth : Method} {c : Code} {H : Heap} {locs : List Loc} {cells slots : Nat}
/-- a frame seen from a rebased start, seen from the first start again -/
theorem vx_back9 {T S : State} {R' : Room} {k n : Nat} (X : Stand p l e R s m args below meth c T locs cells slots) (Y : Stand p l e R' ((T.setVm s.vm).setFrames (.invoking m args :: below)) m args below meth c T [] 0 0) (Z : Stand p l e R' ((T.setVm s.vm).setFrames (.invoking m args :: below)) m args below meth c S [] k n) :
    Stand p l e R s m args below meth c S locs (cells + k) (slots + n) := by
  have hW0 : s.WarmedH ((T.setVm s.vm).setFrames (.invoking m args :: below)).vm := State.WarmedH.refl s
  refine { admits := X.admits, cas := X.cas, clock := X.clock, frames := X.frames, room := X.room, hears := X.hears, method := X.method, code := X.code, here := Z.here, tail := Z.tail, warmed := State.WarmedH.trans hW0 Z.warmed, limits := Z.limits.trans (Y.limits.symm.trans X.limits), bytes := Z.bytes.trans (Y.bytes.symm.trans X.bytes), same := ?_ }
  obtain ⟨e1, e2⟩ := Z.same
  rw [State.setFrames_setFrames] at e1
  have h2 : (T.setVm s.vm).sameButNew (S.setVm s.vm) [] k n := ⟨e1, e2⟩
  have h3 := X.same.trans h2
  rw [List.append_nil] at h3
  exact h3
/-- from the machine's note that E is thrown here with this text -/
def vx_Note (p : Program) (l : Launch) (e : Env) (R : Room) (s : State) (m : MethodId) (args : Array Value) (below : List Frame) (meth : Method) (c : Code) (H : Heap) (locs : List Loc) (cells slots : Nat) (Q : State → Prop) (g : JFrame) (E text : String) : Prop :=
  ∀ T : State, T.heap = H → Stand p l e R s m args below meth c T locs cells slots → ∃ t, Steps p.tables e below ((T.setTop g).pushFrame (.throwNew E (some text) none)) t ∧ Q t
theorem vx_vm {pc : Nat} {ls : Array Slot} {rest : List Value} {Q : State → Prop} (hexec : p.tables.exec = Jvm.exec) (hl : l.stackTraces = false) {cls text : String} {names : List String} {nb : Nat} {A : Nat → Prop}
    (hcls : Bundle.fit cls = true) (hnames : ∀ n ∈ names, Bundle.fit n = true) (hsoe : (cls == "java/lang/StackOverflowError") = false) (hoom : (cls == "java/lang/OutOfMemoryError") = false)
    (hat : ∀ w ∈ vx_atM cls names, w.before args s = true) (hgood : ∀ w ∈ vx_atM cls names, vx_ot w = true)
    (hU : vx_Zq Bundle.tN "UNASSIGNED_STACK" Bundle.steD A s s.heap) (hN : vx_Zq Bundle.tN "SUPPRESSED_SENTINEL" Bundle.listD A s s.heap) (hS : va_S A s.heap H locs) (hsize : ls.size = c.maxLocals)
    (htext : (text == notModelled) = false) (hnb : (stringBytes (stringToUtf16 text)).size ≤ nb) (hnb1 : nb ≤ 1000)
    (hRframes : names.length + 4 < R.frames) (hRlocals : (rest.map fun v => v.category).sum + 10240 ≤ R.locals) (hshort : 13 * names.length + 55 ≤ 10240) (hRcells : cells + 3 ≤ R.cells) (hRslots : slots + (nb + 10) ≤ R.slots) (hlocks : meth.locks = false)
    (k : ∀ (H1 : Heap) (q9 : Addr) (ce : Cell), H.size ≤ H1.size → (∀ q : Nat, q < H.size → H1[q]? = H[q]?) → va_S A s.heap H1 locs → H1[q9]? = some ce → ce.vm = .none → s.vm.findClass cls = some ce.cls → vx_W p l e R s m args below meth c H1 locs (cells + 3) (slots + (nb + 10)) Q (F0 m pc ls rest) q9) :
    vx_Note p l e R s m args below meth c H locs cells slots Q (F0 m pc ls rest) cls text := by
  intro T hT X
  have htr : e.platform.stackTraces = false := (show e.platform.stackTraces = l.stackTraces by rw [X.admits.platform]).trans hl
  have Y := vx_rebase X (R' := { frames := R.frames, locals := R.locals, cells := 3, slots := nb + 10 }) (Nat.le_refl _) (Nat.le_refl _) hRcells hRslots
  have hhp : ((T.setVm s.vm).setFrames (.invoking m args :: below)).heap = H := hT
  have hW0 : s.WarmedH ((T.setVm s.vm).setFrames (.invoking m args :: below)).vm := State.WarmedH.refl s
  have hat' : ∀ w ∈ vx_atM cls names, w.before args ((T.setVm s.vm).setFrames (.invoking m args :: below)) = true := fun w hw => vx_ot_at hW0 rfl (hgood w hw) (hat w hw)
  have hU' : vx_Zq Bundle.tN "UNASSIGNED_STACK" Bundle.steD A ((T.setVm s.vm).setFrames (.invoking m args :: below)) ((T.setVm s.vm).setFrames (.invoking m args :: below)).heap := by rw [hhp]; exact vx_Zq.moved hW0.alike (hU.kept hS.2.1)
  have hN' : vx_Zq Bundle.tN "SUPPRESSED_SENTINEL" Bundle.listD A ((T.setVm s.vm).setFrames (.invoking m args :: below)) ((T.setVm s.vm).setFrames (.invoking m args :: below)).heap := by rw [hhp]; exact vx_Zq.moved hW0.alike (hN.kept hS.2.1)
  obtain ⟨S, q, ce, st, Z, hce, hcl', hv⟩ := vx_vmAt Y hexec htr (cls := cls) (names := names) (text := text) hcls hnames hsoe hoom (vx_own hat' (vx_isRefq hU'.1) (vx_isRefq hN'.1) hU'.2.word hN'.2.word) (fun x hx => nomatch hx) htext
    (by rw [Launch.admits_arrayLengthLimit X.admits]; omega) (by rw [Launch.admits_maxHeapBytes X.admits]; simp only [componentBytes]; omega)
    (g := F0 m pc ls rest) rfl hsize hRframes (by show 2 * 0 + (rest.map fun v => v.category).sum + 10240 ≤ R.locals; omega) hshort (by show 0 + 3 ≤ 3; omega) (by show 0 + (_ + 4 + 6) ≤ nb + 10; omega) hlocks
  obtain ⟨f1, f2⟩ := vx_frame Z.same
  have f1' : H.size ≤ S.heap.size := by rw [← hT]; exact f1
  have f2' : ∀ q : Nat, q < H.size → S.heap[q]? = H[q]? := fun q hq => by
    rw [← hT]
    exact f2 q (by rw [← hT] at hq; exact hq) (fun z hz => nomatch hz)
  have X5 := vx_back9 X Y Z
  have X6 : Stand p l e R s m args below meth c S locs (cells + 3) (slots + (nb + 10)) := { X5 with same := X5.same.mono (by omega) (by omega) }
  obtain ⟨t, a1, b1⟩ := k S.heap q ce f1' f2' ⟨Nat.le_trans hS.1 f1', fun q h1 h2 => (f2' q (Nat.lt_of_lt_of_le h1 hS.1)).trans (hS.2.1 q h1 h2), hS.2.2⟩ hce hv hcl' S rfl X6
  exact ⟨t, st t a1, b1⟩
/-- from the machine's note that NullPointerException is thrown here -/
def vx_NoteN (p : Program) (l : Launch) (e : Env) (R : Room) (s : State) (m : MethodId) (args : Array Value) (below : List Frame) (meth : Method) (c : Code) (H : Heap) (locs : List Loc) (cells slots : Nat) (Q : State → Prop) (g : JFrame) : Prop :=
  ∀ T : State, T.heap = H → Stand p l e R s m args below meth c T locs cells slots → ∃ t, Steps p.tables e below ((T.setTop g).pushFrame (.throwNew "java/lang/NullPointerException" none none)) t ∧ Q t
theorem vx_npe {pc : Nat} {ls : Array Slot} {rest : List Value} {Q : State → Prop} (hexec : p.tables.exec = Jvm.exec) (hl : l.stackTraces = false) {nb : Nat} {A : Nat → Prop}
    (hat : ∀ w ∈ vx_atN nb, w.before args s = true) (hgood : ∀ w ∈ vx_atN nb, vx_ot w = true)
    (hU : vx_Zq Bundle.tN "UNASSIGNED_STACK" Bundle.steD A s s.heap) (hN : vx_Zq Bundle.tN "SUPPRESSED_SENTINEL" Bundle.listD A s s.heap) (hS : va_S A s.heap H locs) (hsize : ls.size = c.maxLocals)
    (hRframes : 7 < R.frames) (hRlocals : (rest.map fun v => v.category).sum + 10240 ≤ R.locals) (hRcells : cells + 1 ≤ R.cells) (hRslots : slots + nb ≤ R.slots) (hlocks : meth.locks = false)
    (k : ∀ (H1 : Heap) (q9 : Addr) (ce : Cell), H.size ≤ H1.size → (∀ q : Nat, q < H.size → H1[q]? = H[q]?) → va_S A s.heap H1 locs → H1[q9]? = some ce → ce.vm = .none → s.vm.findClass "java/lang/NullPointerException" = some ce.cls → vx_W p l e R s m args below meth c H1 locs (cells + 1) (slots + nb) Q (F0 m pc ls rest) q9) :
    vx_NoteN p l e R s m args below meth c H locs cells slots Q (F0 m pc ls rest) := by
  intro T hT X
  have htr : e.platform.stackTraces = false := (show e.platform.stackTraces = l.stackTraces by rw [X.admits.platform]).trans hl
  have Y := vx_rebase X (R' := { frames := R.frames, locals := R.locals, cells := 1, slots := nb }) (Nat.le_refl _) (Nat.le_refl _) hRcells hRslots
  have hhp : ((T.setVm s.vm).setFrames (.invoking m args :: below)).heap = H := hT
  have hW0 : s.WarmedH ((T.setVm s.vm).setFrames (.invoking m args :: below)).vm := State.WarmedH.refl s
  have hat' : ∀ w ∈ vx_atN nb, w.before args ((T.setVm s.vm).setFrames (.invoking m args :: below)) = true := fun w hw => vx_ot_at hW0 rfl (hgood w hw) (hat w hw)
  have hU' : vx_Zq Bundle.tN "UNASSIGNED_STACK" Bundle.steD A ((T.setVm s.vm).setFrames (.invoking m args :: below)) ((T.setVm s.vm).setFrames (.invoking m args :: below)).heap := by rw [hhp]; exact vx_Zq.moved hW0.alike (hU.kept hS.2.1)
  have hN' : vx_Zq Bundle.tN "SUPPRESSED_SENTINEL" Bundle.listD A ((T.setVm s.vm).setFrames (.invoking m args :: below)) ((T.setVm s.vm).setFrames (.invoking m args :: below)).heap := by rw [hhp]; exact vx_Zq.moved hW0.alike (hN.kept hS.2.1)
  obtain ⟨S, q, ce, st, Z, hce, hcl', hv⟩ := vx_npeAt Y hexec htr (n := nb) (vx_own hat' (vx_isRefq hU'.1) (vx_isRefq hN'.1) hU'.2.word hN'.2.word) (fun x hx => nomatch hx)
    (g := F0 m pc ls rest) rfl hsize hRframes (by show 2 * 0 + (rest.map fun v => v.category).sum + 10240 ≤ R.locals; omega) (by show 0 + 1 ≤ 1; omega) (by show 0 + nb ≤ nb; omega) hlocks
  obtain ⟨f1, f2⟩ := vx_frame Z.same
  have f1' : H.size ≤ S.heap.size := by rw [← hT]; exact f1
  have f2' : ∀ q : Nat, q < H.size → S.heap[q]? = H[q]? := fun q hq => by
    rw [← hT]
    exact f2 q (by rw [← hT] at hq; exact hq) (fun z hz => nomatch hz)
  have X5 := vx_back9 X Y Z
  have X6 : Stand p l e R s m args below meth c S locs (cells + 1) (slots + nb) := { X5 with same := X5.same.mono (by omega) (by omega) }
  obtain ⟨t, a1, b1⟩ := k S.heap q ce f1' f2' ⟨Nat.le_trans hS.1 f1', fun q h1 h2 => (f2' q (Nat.lt_of_lt_of_le h1 hS.1)).trans (hS.2.1 q h1 h2), hS.2.2⟩ hce hv hcl' S rfl X6
  exact ⟨t, st t a1, b1⟩
variable {Q : State → Prop} {cc : ByteArray} {pc : Nat} {ls : Array Slot} {rest : List Value}
theorem vx_idivZ (hexec : p.tables.exec = Jvm.exec) (hb : c.code = cc) {a b : Int32} (h0 : b = 0) (d : decode cc pc = .ok (.idiv, 1)) (k : vx_Note p l e R s m args below meth c H locs cells slots Q (F0 m pc ls rest) "java/lang/ArithmeticException" "/ by zero") :
    W p l e R s m args below meth c H locs cells slots Q (F0 m pc ls (.int b :: .int a :: rest)) := by
  intro T hT X
  obtain ⟨t, st, q⟩ := k T hT X
  exact ⟨t, X.idivZero hexec (g := F0 m pc ls (.int b :: .int a :: rest)) rfl (a := a) (rest := rest) (by rw [h0]) (by rw [hb]; exact d) t st, q⟩
theorem vx_iremZ (hexec : p.tables.exec = Jvm.exec) (hb : c.code = cc) {a b : Int32} (h0 : b = 0) (d : decode cc pc = .ok (.irem, 1)) (k : vx_Note p l e R s m args below meth c H locs cells slots Q (F0 m pc ls rest) "java/lang/ArithmeticException" "/ by zero") :
    W p l e R s m args below meth c H locs cells slots Q (F0 m pc ls (.int b :: .int a :: rest)) := by
  intro T hT X
  obtain ⟨t, st, q⟩ := k T hT X
  exact ⟨t, X.iremZero hexec (g := F0 m pc ls (.int b :: .int a :: rest)) rfl (a := a) (rest := rest) (by rw [h0]) (by rw [hb]; exact d) t st, q⟩
theorem vx_ldivZ (hexec : p.tables.exec = Jvm.exec) (hb : c.code = cc) {a b : Int64} (h0 : b = 0) (d : decode cc pc = .ok (.ldiv, 1)) (k : vx_Note p l e R s m args below meth c H locs cells slots Q (F0 m pc ls rest) "java/lang/ArithmeticException" "/ by zero") :
    W p l e R s m args below meth c H locs cells slots Q (F0 m pc ls (.long b :: .long a :: rest)) := by
  intro T hT X
  obtain ⟨t, st, q⟩ := k T hT X
  exact ⟨t, X.ldivZero hexec (g := F0 m pc ls (.long b :: .long a :: rest)) rfl (a := a) (rest := rest) (by rw [h0]) (by rw [hb]; exact d) t st, q⟩
theorem vx_lremZ (hexec : p.tables.exec = Jvm.exec) (hb : c.code = cc) {a b : Int64} (h0 : b = 0) (d : decode cc pc = .ok (.lrem, 1)) (k : vx_Note p l e R s m args below meth c H locs cells slots Q (F0 m pc ls rest) "java/lang/ArithmeticException" "/ by zero") :
    W p l e R s m args below meth c H locs cells slots Q (F0 m pc ls (.long b :: .long a :: rest)) := by
  intro T hT X
  obtain ⟨t, st, q⟩ := k T hT X
  exact ⟨t, X.lremZero hexec (g := F0 m pc ls (.long b :: .long a :: rest)) rfl (a := a) (rest := rest) (by rw [h0]) (by rw [hb]; exact d) t st, q⟩
theorem vx_ialdZ {D : va_G} {cl : List vw_C} {ws : va_W} {tys : List (ClassId × FieldType)} {a : Nat} (hexec : p.tables.exec = Jvm.exec) (hb : c.code = cc) (hK : va_K D cl tys s) (hP : va_P D cl ws H) (q0 t0 : Nat) {cA : ClassId} {n : Nat} {f : Nat → Int32} (ha : ws[q0]? = some (a, .inl (cA, n, .inl f))) (ht : tys[t0]? = some (cA, .int)) {i : Int32} (hout : ¬ vp_in i n) (hdg : decode cc pc = .ok (.iaload, 1))
    (k : ∀ tx : String, tx = (toString "Index " ++ toString i ++ toString " out of bounds for length " ++ toString n : String) → vx_Note p l e R s m args below meth c H locs cells slots Q (F0 m pc ls rest) "java/lang/ArrayIndexOutOfBoundsException" tx) : W p l e R s m args below meth c H locs cells slots Q (F0 m pc ls (.int i :: .ref a :: rest)) := by
  intro T hT X
  obtain ⟨t, st, q⟩ := k _ rfl T hT X
  refine ⟨t, ?_, q⟩
  have h1 := X.ialoadOut hexec (by rw [hT]; exact hP q0 _ ha) ((hK.2 t0 _ ht).1 n (fun j => .int (f j))) (j := i) (by show (i < 0 ∨ (arrV _ _ _).slots.size ≤ _); rw [arrV_size]; exact Classical.byContradiction hout) (g := F0 m pc ls (.int i :: .ref a :: rest)) rfl (rest := rest) rfl (by rw [hb]; exact hdg) t
  simp only [arrV_size] at h1
  exact h1 st
theorem vx_iastZ {D : va_G} {cl : List vw_C} {ws : va_W} {tys : List (ClassId × FieldType)} {a : Nat} (hexec : p.tables.exec = Jvm.exec) (hb : c.code = cc) (hK : va_K D cl tys s) (hP : va_P D cl ws H) (q0 t0 : Nat) {cA : ClassId} {n : Nat} {f : Nat → Int32} (ha : ws[q0]? = some (a, .inl (cA, n, .inl f))) (ht : tys[t0]? = some (cA, .int)) {i : Int32} {x : Int32} (hout : ¬ vp_in i n) (hdg : decode cc pc = .ok (.iastore, 1))
    (k : ∀ tx : String, tx = (toString "Index " ++ toString i ++ toString " out of bounds for length " ++ toString n : String) → vx_Note p l e R s m args below meth c H locs cells slots Q (F0 m pc ls rest) "java/lang/ArrayIndexOutOfBoundsException" tx) : W p l e R s m args below meth c H locs cells slots Q (F0 m pc ls (.int x :: .int i :: .ref a :: rest)) := by
  intro T hT X
  obtain ⟨t, st, q⟩ := k _ rfl T hT X
  refine ⟨t, ?_, q⟩
  have h1 := X.iastoreOut hexec (by rw [hT]; exact hP q0 _ ha) ((hK.2 t0 _ ht).1 n (fun j => .int (f j))) (j := i) (by show (i < 0 ∨ (arrV _ _ _).slots.size ≤ _); rw [arrV_size]; exact Classical.byContradiction hout) (g := F0 m pc ls (.int x :: .int i :: .ref a :: rest)) rfl (rest := rest) rfl (by rw [hb]; exact hdg) t
  simp only [arrV_size] at h1
  exact h1 st
theorem vx_baldZ {D : va_G} {cl : List vw_C} {ws : va_W} {tys : List (ClassId × FieldType)} {a : Nat} (hexec : p.tables.exec = Jvm.exec) (hb : c.code = cc) (hK : va_K D cl tys s) (hP : va_P D cl ws H) (q0 t0 : Nat) {cA : ClassId} {n : Nat} {f : Nat → Int32} (ha : ws[q0]? = some (a, .inl (cA, n, .inl f))) (ht : tys[t0]? = some (cA, .byte)) {i : Int32} (hout : ¬ vp_in i n) (hdg : decode cc pc = .ok (.baload, 1))
    (k : ∀ tx : String, tx = (toString "Index " ++ toString i ++ toString " out of bounds for length " ++ toString n : String) → vx_Note p l e R s m args below meth c H locs cells slots Q (F0 m pc ls rest) "java/lang/ArrayIndexOutOfBoundsException" tx) : W p l e R s m args below meth c H locs cells slots Q (F0 m pc ls (.int i :: .ref a :: rest)) := by
  intro T hT X
  obtain ⟨t, st, q⟩ := k _ rfl T hT X
  refine ⟨t, ?_, q⟩
  have h1 := X.baloadOut hexec (by rw [hT]; exact hP q0 _ ha) ((hK.2 t0 _ ht).1 n (fun j => .int (f j))) (j := i) (by show (i < 0 ∨ (arrV _ _ _).slots.size ≤ _); rw [arrV_size]; exact Classical.byContradiction hout) (g := F0 m pc ls (.int i :: .ref a :: rest)) rfl (rest := rest) rfl (by rw [hb]; exact hdg) t
  simp only [arrV_size] at h1
  exact h1 st
theorem vx_bastZ {D : va_G} {cl : List vw_C} {ws : va_W} {tys : List (ClassId × FieldType)} {a : Nat} (hexec : p.tables.exec = Jvm.exec) (hb : c.code = cc) (hK : va_K D cl tys s) (hP : va_P D cl ws H) (q0 t0 : Nat) {cA : ClassId} {n : Nat} {f : Nat → Int32} (ha : ws[q0]? = some (a, .inl (cA, n, .inl f))) (ht : tys[t0]? = some (cA, .byte)) {i : Int32} {x : Int32} (hout : ¬ vp_in i n) (hdg : decode cc pc = .ok (.bastore, 1))
    (k : ∀ tx : String, tx = (toString "Index " ++ toString i ++ toString " out of bounds for length " ++ toString n : String) → vx_Note p l e R s m args below meth c H locs cells slots Q (F0 m pc ls rest) "java/lang/ArrayIndexOutOfBoundsException" tx) : W p l e R s m args below meth c H locs cells slots Q (F0 m pc ls (.int x :: .int i :: .ref a :: rest)) := by
  intro T hT X
  obtain ⟨t, st, q⟩ := k _ rfl T hT X
  refine ⟨t, ?_, q⟩
  have h1 := X.bastoreOut hexec (by rw [hT]; exact hP q0 _ ha) ((hK.2 t0 _ ht).1 n (fun j => .int (f j))) (j := i) (by show (i < 0 ∨ (arrV _ _ _).slots.size ≤ _); rw [arrV_size]; exact Classical.byContradiction hout) (g := F0 m pc ls (.int x :: .int i :: .ref a :: rest)) rfl (rest := rest) rfl (by rw [hb]; exact hdg) t
  simp only [arrV_size] at h1
  exact h1 st
theorem vx_zaldZ {D : va_G} {cl : List vw_C} {ws : va_W} {tys : List (ClassId × FieldType)} {a : Nat} (hexec : p.tables.exec = Jvm.exec) (hb : c.code = cc) (hK : va_K D cl tys s) (hP : va_P D cl ws H) (q0 t0 : Nat) {cA : ClassId} {n : Nat} {f : Nat → Int32} (ha : ws[q0]? = some (a, .inl (cA, n, .inl f))) (ht : tys[t0]? = some (cA, .boolean)) {i : Int32} (hout : ¬ vp_in i n) (hdg : decode cc pc = .ok (.baload, 1))
    (k : ∀ tx : String, tx = (toString "Index " ++ toString i ++ toString " out of bounds for length " ++ toString n : String) → vx_Note p l e R s m args below meth c H locs cells slots Q (F0 m pc ls rest) "java/lang/ArrayIndexOutOfBoundsException" tx) : W p l e R s m args below meth c H locs cells slots Q (F0 m pc ls (.int i :: .ref a :: rest)) := by
  intro T hT X
  obtain ⟨t, st, q⟩ := k _ rfl T hT X
  refine ⟨t, ?_, q⟩
  have h1 := X.baloadOut hexec (by rw [hT]; exact hP q0 _ ha) ((hK.2 t0 _ ht).1 n (fun j => .int (f j))) (j := i) (by show (i < 0 ∨ (arrV _ _ _).slots.size ≤ _); rw [arrV_size]; exact Classical.byContradiction hout) (g := F0 m pc ls (.int i :: .ref a :: rest)) rfl (rest := rest) rfl (by rw [hb]; exact hdg) t
  simp only [arrV_size] at h1
  exact h1 st
theorem vx_zastZ {D : va_G} {cl : List vw_C} {ws : va_W} {tys : List (ClassId × FieldType)} {a : Nat} (hexec : p.tables.exec = Jvm.exec) (hb : c.code = cc) (hK : va_K D cl tys s) (hP : va_P D cl ws H) (q0 t0 : Nat) {cA : ClassId} {n : Nat} {f : Nat → Int32} (ha : ws[q0]? = some (a, .inl (cA, n, .inl f))) (ht : tys[t0]? = some (cA, .boolean)) {i : Int32} {x : Int32} (hout : ¬ vp_in i n) (hdg : decode cc pc = .ok (.bastore, 1))
    (k : ∀ tx : String, tx = (toString "Index " ++ toString i ++ toString " out of bounds for length " ++ toString n : String) → vx_Note p l e R s m args below meth c H locs cells slots Q (F0 m pc ls rest) "java/lang/ArrayIndexOutOfBoundsException" tx) : W p l e R s m args below meth c H locs cells slots Q (F0 m pc ls (.int x :: .int i :: .ref a :: rest)) := by
  intro T hT X
  obtain ⟨t, st, q⟩ := k _ rfl T hT X
  refine ⟨t, ?_, q⟩
  have h1 := X.bastoreOut hexec (by rw [hT]; exact hP q0 _ ha) ((hK.2 t0 _ ht).1 n (fun j => .int (f j))) (j := i) (by show (i < 0 ∨ (arrV _ _ _).slots.size ≤ _); rw [arrV_size]; exact Classical.byContradiction hout) (g := F0 m pc ls (.int x :: .int i :: .ref a :: rest)) rfl (rest := rest) rfl (by rw [hb]; exact hdg) t
  simp only [arrV_size] at h1
  exact h1 st
theorem vx_caldZ {D : va_G} {cl : List vw_C} {ws : va_W} {tys : List (ClassId × FieldType)} {a : Nat} (hexec : p.tables.exec = Jvm.exec) (hb : c.code = cc) (hK : va_K D cl tys s) (hP : va_P D cl ws H) (q0 t0 : Nat) {cA : ClassId} {n : Nat} {f : Nat → Int32} (ha : ws[q0]? = some (a, .inl (cA, n, .inl f))) (ht : tys[t0]? = some (cA, .char)) {i : Int32} (hout : ¬ vp_in i n) (hdg : decode cc pc = .ok (.caload, 1))
    (k : ∀ tx : String, tx = (toString "Index " ++ toString i ++ toString " out of bounds for length " ++ toString n : String) → vx_Note p l e R s m args below meth c H locs cells slots Q (F0 m pc ls rest) "java/lang/ArrayIndexOutOfBoundsException" tx) : W p l e R s m args below meth c H locs cells slots Q (F0 m pc ls (.int i :: .ref a :: rest)) := by
  intro T hT X
  obtain ⟨t, st, q⟩ := k _ rfl T hT X
  refine ⟨t, ?_, q⟩
  have h1 := X.caloadOut hexec (by rw [hT]; exact hP q0 _ ha) ((hK.2 t0 _ ht).1 n (fun j => .int (f j))) (j := i) (by show (i < 0 ∨ (arrV _ _ _).slots.size ≤ _); rw [arrV_size]; exact Classical.byContradiction hout) (g := F0 m pc ls (.int i :: .ref a :: rest)) rfl (rest := rest) rfl (by rw [hb]; exact hdg) t
  simp only [arrV_size] at h1
  exact h1 st
theorem vx_castZ {D : va_G} {cl : List vw_C} {ws : va_W} {tys : List (ClassId × FieldType)} {a : Nat} (hexec : p.tables.exec = Jvm.exec) (hb : c.code = cc) (hK : va_K D cl tys s) (hP : va_P D cl ws H) (q0 t0 : Nat) {cA : ClassId} {n : Nat} {f : Nat → Int32} (ha : ws[q0]? = some (a, .inl (cA, n, .inl f))) (ht : tys[t0]? = some (cA, .char)) {i : Int32} {x : Int32} (hout : ¬ vp_in i n) (hdg : decode cc pc = .ok (.castore, 1))
    (k : ∀ tx : String, tx = (toString "Index " ++ toString i ++ toString " out of bounds for length " ++ toString n : String) → vx_Note p l e R s m args below meth c H locs cells slots Q (F0 m pc ls rest) "java/lang/ArrayIndexOutOfBoundsException" tx) : W p l e R s m args below meth c H locs cells slots Q (F0 m pc ls (.int x :: .int i :: .ref a :: rest)) := by
  intro T hT X
  obtain ⟨t, st, q⟩ := k _ rfl T hT X
  refine ⟨t, ?_, q⟩
  have h1 := X.castoreOut hexec (by rw [hT]; exact hP q0 _ ha) ((hK.2 t0 _ ht).1 n (fun j => .int (f j))) (j := i) (by show (i < 0 ∨ (arrV _ _ _).slots.size ≤ _); rw [arrV_size]; exact Classical.byContradiction hout) (g := F0 m pc ls (.int x :: .int i :: .ref a :: rest)) rfl (rest := rest) rfl (by rw [hb]; exact hdg) t
  simp only [arrV_size] at h1
  exact h1 st
theorem vx_saldZ {D : va_G} {cl : List vw_C} {ws : va_W} {tys : List (ClassId × FieldType)} {a : Nat} (hexec : p.tables.exec = Jvm.exec) (hb : c.code = cc) (hK : va_K D cl tys s) (hP : va_P D cl ws H) (q0 t0 : Nat) {cA : ClassId} {n : Nat} {f : Nat → Int32} (ha : ws[q0]? = some (a, .inl (cA, n, .inl f))) (ht : tys[t0]? = some (cA, .short)) {i : Int32} (hout : ¬ vp_in i n) (hdg : decode cc pc = .ok (.saload, 1))
    (k : ∀ tx : String, tx = (toString "Index " ++ toString i ++ toString " out of bounds for length " ++ toString n : String) → vx_Note p l e R s m args below meth c H locs cells slots Q (F0 m pc ls rest) "java/lang/ArrayIndexOutOfBoundsException" tx) : W p l e R s m args below meth c H locs cells slots Q (F0 m pc ls (.int i :: .ref a :: rest)) := by
  intro T hT X
  obtain ⟨t, st, q⟩ := k _ rfl T hT X
  refine ⟨t, ?_, q⟩
  have h1 := X.saloadOut hexec (by rw [hT]; exact hP q0 _ ha) ((hK.2 t0 _ ht).1 n (fun j => .int (f j))) (j := i) (by show (i < 0 ∨ (arrV _ _ _).slots.size ≤ _); rw [arrV_size]; exact Classical.byContradiction hout) (g := F0 m pc ls (.int i :: .ref a :: rest)) rfl (rest := rest) rfl (by rw [hb]; exact hdg) t
  simp only [arrV_size] at h1
  exact h1 st
theorem vx_sastZ {D : va_G} {cl : List vw_C} {ws : va_W} {tys : List (ClassId × FieldType)} {a : Nat} (hexec : p.tables.exec = Jvm.exec) (hb : c.code = cc) (hK : va_K D cl tys s) (hP : va_P D cl ws H) (q0 t0 : Nat) {cA : ClassId} {n : Nat} {f : Nat → Int32} (ha : ws[q0]? = some (a, .inl (cA, n, .inl f))) (ht : tys[t0]? = some (cA, .short)) {i : Int32} {x : Int32} (hout : ¬ vp_in i n) (hdg : decode cc pc = .ok (.sastore, 1))
    (k : ∀ tx : String, tx = (toString "Index " ++ toString i ++ toString " out of bounds for length " ++ toString n : String) → vx_Note p l e R s m args below meth c H locs cells slots Q (F0 m pc ls rest) "java/lang/ArrayIndexOutOfBoundsException" tx) : W p l e R s m args below meth c H locs cells slots Q (F0 m pc ls (.int x :: .int i :: .ref a :: rest)) := by
  intro T hT X
  obtain ⟨t, st, q⟩ := k _ rfl T hT X
  refine ⟨t, ?_, q⟩
  have h1 := X.sastoreOut hexec (by rw [hT]; exact hP q0 _ ha) ((hK.2 t0 _ ht).1 n (fun j => .int (f j))) (j := i) (by show (i < 0 ∨ (arrV _ _ _).slots.size ≤ _); rw [arrV_size]; exact Classical.byContradiction hout) (g := F0 m pc ls (.int x :: .int i :: .ref a :: rest)) rfl (rest := rest) rfl (by rw [hb]; exact hdg) t
  simp only [arrV_size] at h1
  exact h1 st
theorem vx_laldZ {D : va_G} {cl : List vw_C} {ws : va_W} {tys : List (ClassId × FieldType)} {a : Nat} (hexec : p.tables.exec = Jvm.exec) (hb : c.code = cc) (hK : va_K D cl tys s) (hP : va_P D cl ws H) (q0 t0 : Nat) {cA : ClassId} {n : Nat} {f : Nat → Int64} (ha : ws[q0]? = some (a, .inl (cA, n, .inr (.inl f)))) (ht : tys[t0]? = some (cA, .long)) {i : Int32} (hout : ¬ vp_in i n) (hdg : decode cc pc = .ok (.laload, 1))
    (k : ∀ tx : String, tx = (toString "Index " ++ toString i ++ toString " out of bounds for length " ++ toString n : String) → vx_Note p l e R s m args below meth c H locs cells slots Q (F0 m pc ls rest) "java/lang/ArrayIndexOutOfBoundsException" tx) : W p l e R s m args below meth c H locs cells slots Q (F0 m pc ls (.int i :: .ref a :: rest)) := by
  intro T hT X
  obtain ⟨t, st, q⟩ := k _ rfl T hT X
  refine ⟨t, ?_, q⟩
  have h1 := X.laloadOut hexec (by rw [hT]; exact hP q0 _ ha) ((hK.2 t0 _ ht).1 n (fun j => .long (f j))) (j := i) (by show (i < 0 ∨ (arrV _ _ _).slots.size ≤ _); rw [arrV_size]; exact Classical.byContradiction hout) (g := F0 m pc ls (.int i :: .ref a :: rest)) rfl (rest := rest) rfl (by rw [hb]; exact hdg) t
  simp only [arrV_size] at h1
  exact h1 st
theorem vx_lastZ {D : va_G} {cl : List vw_C} {ws : va_W} {tys : List (ClassId × FieldType)} {a : Nat} (hexec : p.tables.exec = Jvm.exec) (hb : c.code = cc) (hK : va_K D cl tys s) (hP : va_P D cl ws H) (q0 t0 : Nat) {cA : ClassId} {n : Nat} {f : Nat → Int64} (ha : ws[q0]? = some (a, .inl (cA, n, .inr (.inl f)))) (ht : tys[t0]? = some (cA, .long)) {i : Int32} {x : Int64} (hout : ¬ vp_in i n) (hdg : decode cc pc = .ok (.lastore, 1))
    (k : ∀ tx : String, tx = (toString "Index " ++ toString i ++ toString " out of bounds for length " ++ toString n : String) → vx_Note p l e R s m args below meth c H locs cells slots Q (F0 m pc ls rest) "java/lang/ArrayIndexOutOfBoundsException" tx) : W p l e R s m args below meth c H locs cells slots Q (F0 m pc ls (.long x :: .int i :: .ref a :: rest)) := by
  intro T hT X
  obtain ⟨t, st, q⟩ := k _ rfl T hT X
  refine ⟨t, ?_, q⟩
  have h1 := X.lastoreOut hexec (by rw [hT]; exact hP q0 _ ha) ((hK.2 t0 _ ht).1 n (fun j => .long (f j))) (j := i) (by show (i < 0 ∨ (arrV _ _ _).slots.size ≤ _); rw [arrV_size]; exact Classical.byContradiction hout) (g := F0 m pc ls (.long x :: .int i :: .ref a :: rest)) rfl (rest := rest) rfl (by rw [hb]; exact hdg) t
  simp only [arrV_size] at h1
  exact h1 st
theorem vx_faldZ {D : va_G} {cl : List vw_C} {ws : va_W} {tys : List (ClassId × FieldType)} {a : Nat} (hexec : p.tables.exec = Jvm.exec) (hb : c.code = cc) (hK : va_K D cl tys s) (hP : va_P D cl ws H) (q0 t0 : Nat) {cA : ClassId} {n : Nat} {f : Nat → UInt32} (ha : ws[q0]? = some (a, .inl (cA, n, .inr (.inr (.inl f))))) (ht : tys[t0]? = some (cA, .float)) {i : Int32} (hout : ¬ vp_in i n) (hdg : decode cc pc = .ok (.faload, 1))
    (k : ∀ tx : String, tx = (toString "Index " ++ toString i ++ toString " out of bounds for length " ++ toString n : String) → vx_Note p l e R s m args below meth c H locs cells slots Q (F0 m pc ls rest) "java/lang/ArrayIndexOutOfBoundsException" tx) : W p l e R s m args below meth c H locs cells slots Q (F0 m pc ls (.int i :: .ref a :: rest)) := by
  intro T hT X
  obtain ⟨t, st, q⟩ := k _ rfl T hT X
  refine ⟨t, ?_, q⟩
  have h1 := X.faloadOut hexec (by rw [hT]; exact hP q0 _ ha) ((hK.2 t0 _ ht).1 n (fun j => .float (f j))) (j := i) (by show (i < 0 ∨ (arrV _ _ _).slots.size ≤ _); rw [arrV_size]; exact Classical.byContradiction hout) (g := F0 m pc ls (.int i :: .ref a :: rest)) rfl (rest := rest) rfl (by rw [hb]; exact hdg) t
  simp only [arrV_size] at h1
  exact h1 st
theorem vx_fastZ {D : va_G} {cl : List vw_C} {ws : va_W} {tys : List (ClassId × FieldType)} {a : Nat} (hexec : p.tables.exec = Jvm.exec) (hb : c.code = cc) (hK : va_K D cl tys s) (hP : va_P D cl ws H) (q0 t0 : Nat) {cA : ClassId} {n : Nat} {f : Nat → UInt32} (ha : ws[q0]? = some (a, .inl (cA, n, .inr (.inr (.inl f))))) (ht : tys[t0]? = some (cA, .float)) {i : Int32} {x : UInt32} (hout : ¬ vp_in i n) (hdg : decode cc pc = .ok (.fastore, 1))
    (k : ∀ tx : String, tx = (toString "Index " ++ toString i ++ toString " out of bounds for length " ++ toString n : String) → vx_Note p l e R s m args below meth c H locs cells slots Q (F0 m pc ls rest) "java/lang/ArrayIndexOutOfBoundsException" tx) : W p l e R s m args below meth c H locs cells slots Q (F0 m pc ls (.float x :: .int i :: .ref a :: rest)) := by
  intro T hT X
  obtain ⟨t, st, q⟩ := k _ rfl T hT X
  refine ⟨t, ?_, q⟩
  have h1 := X.fastoreOut hexec (by rw [hT]; exact hP q0 _ ha) ((hK.2 t0 _ ht).1 n (fun j => .float (f j))) (j := i) (by show (i < 0 ∨ (arrV _ _ _).slots.size ≤ _); rw [arrV_size]; exact Classical.byContradiction hout) (g := F0 m pc ls (.float x :: .int i :: .ref a :: rest)) rfl (rest := rest) rfl (by rw [hb]; exact hdg) t
  simp only [arrV_size] at h1
  exact h1 st
theorem vx_daldZ {D : va_G} {cl : List vw_C} {ws : va_W} {tys : List (ClassId × FieldType)} {a : Nat} (hexec : p.tables.exec = Jvm.exec) (hb : c.code = cc) (hK : va_K D cl tys s) (hP : va_P D cl ws H) (q0 t0 : Nat) {cA : ClassId} {n : Nat} {f : Nat → UInt64} (ha : ws[q0]? = some (a, .inl (cA, n, .inr (.inr (.inr (.inl f)))))) (ht : tys[t0]? = some (cA, .double)) {i : Int32} (hout : ¬ vp_in i n) (hdg : decode cc pc = .ok (.daload, 1))
    (k : ∀ tx : String, tx = (toString "Index " ++ toString i ++ toString " out of bounds for length " ++ toString n : String) → vx_Note p l e R s m args below meth c H locs cells slots Q (F0 m pc ls rest) "java/lang/ArrayIndexOutOfBoundsException" tx) : W p l e R s m args below meth c H locs cells slots Q (F0 m pc ls (.int i :: .ref a :: rest)) := by
  intro T hT X
  obtain ⟨t, st, q⟩ := k _ rfl T hT X
  refine ⟨t, ?_, q⟩
  have h1 := X.daloadOut hexec (by rw [hT]; exact hP q0 _ ha) ((hK.2 t0 _ ht).1 n (fun j => .double (f j))) (j := i) (by show (i < 0 ∨ (arrV _ _ _).slots.size ≤ _); rw [arrV_size]; exact Classical.byContradiction hout) (g := F0 m pc ls (.int i :: .ref a :: rest)) rfl (rest := rest) rfl (by rw [hb]; exact hdg) t
  simp only [arrV_size] at h1
  exact h1 st
theorem vx_dastZ {D : va_G} {cl : List vw_C} {ws : va_W} {tys : List (ClassId × FieldType)} {a : Nat} (hexec : p.tables.exec = Jvm.exec) (hb : c.code = cc) (hK : va_K D cl tys s) (hP : va_P D cl ws H) (q0 t0 : Nat) {cA : ClassId} {n : Nat} {f : Nat → UInt64} (ha : ws[q0]? = some (a, .inl (cA, n, .inr (.inr (.inr (.inl f)))))) (ht : tys[t0]? = some (cA, .double)) {i : Int32} {x : UInt64} (hout : ¬ vp_in i n) (hdg : decode cc pc = .ok (.dastore, 1))
    (k : ∀ tx : String, tx = (toString "Index " ++ toString i ++ toString " out of bounds for length " ++ toString n : String) → vx_Note p l e R s m args below meth c H locs cells slots Q (F0 m pc ls rest) "java/lang/ArrayIndexOutOfBoundsException" tx) : W p l e R s m args below meth c H locs cells slots Q (F0 m pc ls (.double x :: .int i :: .ref a :: rest)) := by
  intro T hT X
  obtain ⟨t, st, q⟩ := k _ rfl T hT X
  refine ⟨t, ?_, q⟩
  have h1 := X.dastoreOut hexec (by rw [hT]; exact hP q0 _ ha) ((hK.2 t0 _ ht).1 n (fun j => .double (f j))) (j := i) (by show (i < 0 ∨ (arrV _ _ _).slots.size ≤ _); rw [arrV_size]; exact Classical.byContradiction hout) (g := F0 m pc ls (.double x :: .int i :: .ref a :: rest)) rfl (rest := rest) rfl (by rw [hb]; exact hdg) t
  simp only [arrV_size] at h1
  exact h1 st
theorem vx_arraylengthN (hexec : p.tables.exec = Jvm.exec) (hb : c.code = cc) (hdg : decode cc pc = .ok (.arraylength, 1)) (k : vx_NoteN p l e R s m args below meth c H locs cells slots Q (F0 m pc ls rest)) : W p l e R s m args below meth c H locs cells slots Q (F0 m pc ls (.null :: rest)) := by
  intro T hT X
  obtain ⟨t, st, q⟩ := k T hT X
  exact ⟨t, X.arraylengthNull hexec (g := F0 m pc ls (.null :: rest)) rfl (rest := rest) rfl (by rw [hb]; exact hdg) t st, q⟩
theorem vx_ialoadN (hexec : p.tables.exec = Jvm.exec) (hb : c.code = cc) {i : Int32} (hdg : decode cc pc = .ok (.iaload, 1)) (k : vx_NoteN p l e R s m args below meth c H locs cells slots Q (F0 m pc ls rest)) : W p l e R s m args below meth c H locs cells slots Q (F0 m pc ls (.int i :: .null :: rest)) := by
  intro T hT X
  obtain ⟨t, st, q⟩ := k T hT X
  exact ⟨t, X.ialoadNull hexec (g := F0 m pc ls (.int i :: .null :: rest)) rfl (rest := rest) rfl (by rw [hb]; exact hdg) t st, q⟩
theorem vx_laloadN (hexec : p.tables.exec = Jvm.exec) (hb : c.code = cc) {i : Int32} (hdg : decode cc pc = .ok (.laload, 1)) (k : vx_NoteN p l e R s m args below meth c H locs cells slots Q (F0 m pc ls rest)) : W p l e R s m args below meth c H locs cells slots Q (F0 m pc ls (.int i :: .null :: rest)) := by
  intro T hT X
  obtain ⟨t, st, q⟩ := k T hT X
  exact ⟨t, X.laloadNull hexec (g := F0 m pc ls (.int i :: .null :: rest)) rfl (rest := rest) rfl (by rw [hb]; exact hdg) t st, q⟩
theorem vx_faloadN (hexec : p.tables.exec = Jvm.exec) (hb : c.code = cc) {i : Int32} (hdg : decode cc pc = .ok (.faload, 1)) (k : vx_NoteN p l e R s m args below meth c H locs cells slots Q (F0 m pc ls rest)) : W p l e R s m args below meth c H locs cells slots Q (F0 m pc ls (.int i :: .null :: rest)) := by
  intro T hT X
  obtain ⟨t, st, q⟩ := k T hT X
  exact ⟨t, X.faloadNull hexec (g := F0 m pc ls (.int i :: .null :: rest)) rfl (rest := rest) rfl (by rw [hb]; exact hdg) t st, q⟩
theorem vx_daloadN (hexec : p.tables.exec = Jvm.exec) (hb : c.code = cc) {i : Int32} (hdg : decode cc pc = .ok (.daload, 1)) (k : vx_NoteN p l e R s m args below meth c H locs cells slots Q (F0 m pc ls rest)) : W p l e R s m args below meth c H locs cells slots Q (F0 m pc ls (.int i :: .null :: rest)) := by
  intro T hT X
  obtain ⟨t, st, q⟩ := k T hT X
  exact ⟨t, X.daloadNull hexec (g := F0 m pc ls (.int i :: .null :: rest)) rfl (rest := rest) rfl (by rw [hb]; exact hdg) t st, q⟩
theorem vx_aaloadN (hexec : p.tables.exec = Jvm.exec) (hb : c.code = cc) {i : Int32} (hdg : decode cc pc = .ok (.aaload, 1)) (k : vx_NoteN p l e R s m args below meth c H locs cells slots Q (F0 m pc ls rest)) : W p l e R s m args below meth c H locs cells slots Q (F0 m pc ls (.int i :: .null :: rest)) := by
  intro T hT X
  obtain ⟨t, st, q⟩ := k T hT X
  exact ⟨t, X.aaloadNull hexec (g := F0 m pc ls (.int i :: .null :: rest)) rfl (rest := rest) rfl (by rw [hb]; exact hdg) t st, q⟩
theorem vx_baloadN (hexec : p.tables.exec = Jvm.exec) (hb : c.code = cc) {i : Int32} (hdg : decode cc pc = .ok (.baload, 1)) (k : vx_NoteN p l e R s m args below meth c H locs cells slots Q (F0 m pc ls rest)) : W p l e R s m args below meth c H locs cells slots Q (F0 m pc ls (.int i :: .null :: rest)) := by
  intro T hT X
  obtain ⟨t, st, q⟩ := k T hT X
  exact ⟨t, X.baloadNull hexec (g := F0 m pc ls (.int i :: .null :: rest)) rfl (rest := rest) rfl (by rw [hb]; exact hdg) t st, q⟩
theorem vx_caloadN (hexec : p.tables.exec = Jvm.exec) (hb : c.code = cc) {i : Int32} (hdg : decode cc pc = .ok (.caload, 1)) (k : vx_NoteN p l e R s m args below meth c H locs cells slots Q (F0 m pc ls rest)) : W p l e R s m args below meth c H locs cells slots Q (F0 m pc ls (.int i :: .null :: rest)) := by
  intro T hT X
  obtain ⟨t, st, q⟩ := k T hT X
  exact ⟨t, X.caloadNull hexec (g := F0 m pc ls (.int i :: .null :: rest)) rfl (rest := rest) rfl (by rw [hb]; exact hdg) t st, q⟩
theorem vx_saloadN (hexec : p.tables.exec = Jvm.exec) (hb : c.code = cc) {i : Int32} (hdg : decode cc pc = .ok (.saload, 1)) (k : vx_NoteN p l e R s m args below meth c H locs cells slots Q (F0 m pc ls rest)) : W p l e R s m args below meth c H locs cells slots Q (F0 m pc ls (.int i :: .null :: rest)) := by
  intro T hT X
  obtain ⟨t, st, q⟩ := k T hT X
  exact ⟨t, X.saloadNull hexec (g := F0 m pc ls (.int i :: .null :: rest)) rfl (rest := rest) rfl (by rw [hb]; exact hdg) t st, q⟩
theorem vx_iastoreN (hexec : p.tables.exec = Jvm.exec) (hb : c.code = cc) {x : Int32} {i : Int32} (hdg : decode cc pc = .ok (.iastore, 1)) (k : vx_NoteN p l e R s m args below meth c H locs cells slots Q (F0 m pc ls rest)) : W p l e R s m args below meth c H locs cells slots Q (F0 m pc ls (.int x :: .int i :: .null :: rest)) := by
  intro T hT X
  obtain ⟨t, st, q⟩ := k T hT X
  exact ⟨t, X.iastoreNull hexec (g := F0 m pc ls (.int x :: .int i :: .null :: rest)) rfl (rest := rest) rfl (by rw [hb]; exact hdg) t st, q⟩
theorem vx_lastoreN (hexec : p.tables.exec = Jvm.exec) (hb : c.code = cc) {x : Int64} {i : Int32} (hdg : decode cc pc = .ok (.lastore, 1)) (k : vx_NoteN p l e R s m args below meth c H locs cells slots Q (F0 m pc ls rest)) : W p l e R s m args below meth c H locs cells slots Q (F0 m pc ls (.long x :: .int i :: .null :: rest)) := by
  intro T hT X
  obtain ⟨t, st, q⟩ := k T hT X
  exact ⟨t, X.lastoreNull hexec (g := F0 m pc ls (.long x :: .int i :: .null :: rest)) rfl (rest := rest) rfl (by rw [hb]; exact hdg) t st, q⟩
theorem vx_fastoreN (hexec : p.tables.exec = Jvm.exec) (hb : c.code = cc) {x : UInt32} {i : Int32} (hdg : decode cc pc = .ok (.fastore, 1)) (k : vx_NoteN p l e R s m args below meth c H locs cells slots Q (F0 m pc ls rest)) : W p l e R s m args below meth c H locs cells slots Q (F0 m pc ls (.float x :: .int i :: .null :: rest)) := by
  intro T hT X
  obtain ⟨t, st, q⟩ := k T hT X
  exact ⟨t, X.fastoreNull hexec (g := F0 m pc ls (.float x :: .int i :: .null :: rest)) rfl (rest := rest) rfl (by rw [hb]; exact hdg) t st, q⟩
theorem vx_dastoreN (hexec : p.tables.exec = Jvm.exec) (hb : c.code = cc) {x : UInt64} {i : Int32} (hdg : decode cc pc = .ok (.dastore, 1)) (k : vx_NoteN p l e R s m args below meth c H locs cells slots Q (F0 m pc ls rest)) : W p l e R s m args below meth c H locs cells slots Q (F0 m pc ls (.double x :: .int i :: .null :: rest)) := by
  intro T hT X
  obtain ⟨t, st, q⟩ := k T hT X
  exact ⟨t, X.dastoreNull hexec (g := F0 m pc ls (.double x :: .int i :: .null :: rest)) rfl (rest := rest) rfl (by rw [hb]; exact hdg) t st, q⟩
theorem vx_bastoreN (hexec : p.tables.exec = Jvm.exec) (hb : c.code = cc) {x : Int32} {i : Int32} (hdg : decode cc pc = .ok (.bastore, 1)) (k : vx_NoteN p l e R s m args below meth c H locs cells slots Q (F0 m pc ls rest)) : W p l e R s m args below meth c H locs cells slots Q (F0 m pc ls (.int x :: .int i :: .null :: rest)) := by
  intro T hT X
  obtain ⟨t, st, q⟩ := k T hT X
  exact ⟨t, X.bastoreNull hexec (g := F0 m pc ls (.int x :: .int i :: .null :: rest)) rfl (rest := rest) rfl (by rw [hb]; exact hdg) t st, q⟩
theorem vx_castoreN (hexec : p.tables.exec = Jvm.exec) (hb : c.code = cc) {x : Int32} {i : Int32} (hdg : decode cc pc = .ok (.castore, 1)) (k : vx_NoteN p l e R s m args below meth c H locs cells slots Q (F0 m pc ls rest)) : W p l e R s m args below meth c H locs cells slots Q (F0 m pc ls (.int x :: .int i :: .null :: rest)) := by
  intro T hT X
  obtain ⟨t, st, q⟩ := k T hT X
  exact ⟨t, X.castoreNull hexec (g := F0 m pc ls (.int x :: .int i :: .null :: rest)) rfl (rest := rest) rfl (by rw [hb]; exact hdg) t st, q⟩
theorem vx_sastoreN (hexec : p.tables.exec = Jvm.exec) (hb : c.code = cc) {x : Int32} {i : Int32} (hdg : decode cc pc = .ok (.sastore, 1)) (k : vx_NoteN p l e R s m args below meth c H locs cells slots Q (F0 m pc ls rest)) : W p l e R s m args below meth c H locs cells slots Q (F0 m pc ls (.int x :: .int i :: .null :: rest)) := by
  intro T hT X
  obtain ⟨t, st, q⟩ := k T hT X
  exact ⟨t, X.sastoreNull hexec (g := F0 m pc ls (.int x :: .int i :: .null :: rest)) rfl (rest := rest) rfl (by rw [hb]; exact hdg) t st, q⟩
theorem vx_invokeN {own C : String} {index maxL : Nat} {y : MethodName} {bytes : ByteArray} {ret : Option FieldType} (hexec : p.tables.exec = Jvm.exec) (hb : c.code = cc) (hown : s.vm.findClass own = some m.cls) (hlink : (Cond.methodLink own index y).before args s = true) (hinst : (Cond.instanceMethod y).before args s = true) (hcode : (Cond.code y bytes maxL ret).before args s = true) (hsel : (Cond.selects C y y).before args s = true)
    (hx : y.cls ≠ "java/lang/invoke/MethodHandle" ∧ y.cls ≠ "java/lang/invoke/VarHandle") {As : List Value} (hlen : (parseMethodDescriptor y.desc).map (fun d => d.parameters.length) = some As.length) (hdg : decode cc pc = .ok (.invokevirtual index, 3))
    (k : vx_NoteN p l e R s m args below meth c H locs cells slots Q (F0 m pc ls rest)) {st0 : List Value} (hst : st0 = As.reverse ++ .null :: rest) : W p l e R s m args below meth c H locs cells slots Q (F0 m pc ls st0) := by
  intro T hT X
  obtain ⟨r0, r, hn, hrm, hstR, hsigR⟩ := va_Decl.of hinst hcode
  obtain ⟨c2, r2, m2, q1, q2, q3, q4, kP, hkP, hkPi⟩ := Cond.selects_spec hsel
  cases hn.symm.trans q3
  have hl9 : As.length = r.sig.parameters.length := by
    rw [hsigR] at hlen
    exact (Option.some.inj hlen).symm
  obtain ⟨vm', X1, st1⟩ := X.invokevirtualNull hexec hown hlink hn hrm hstR hkP hkPi hx (g := F0 m pc ls st0) rfl (argsL := As) (rest := rest) hl9 hst (by rw [hb]; exact hdg)
  obtain ⟨t, st, q⟩ := k (T.setVm vm') hT X1
  exact ⟨t, st1 t st, q⟩
theorem vx_newarrayZ {atype : ArrayType} (hexec : p.tables.exec = Jvm.exec) (hb : c.code = cc) {n : Int32} (h0 : n < 0) (hdg : decode cc pc = .ok (.newarray atype, 2)) (k : ∀ tx : String, tx = toString n → vx_Note p l e R s m args below meth c H locs cells slots Q (F0 m pc ls rest) "java/lang/NegativeArraySizeException" tx) : W p l e R s m args below meth c H locs cells slots Q (F0 m pc ls (.int n :: rest)) := by
  intro T hT X
  obtain ⟨t, st, q⟩ := k _ rfl T hT X
  exact ⟨t, X.newarrayNegative hexec (g := F0 m pc ls (.int n :: rest)) rfl h0 (rest := rest) rfl (by rw [hb]; exact hdg) t st, q⟩
end
end VXM
/-! ===== END ===== -/
end
section
/-! ===== BEGIN printed: names, fields, word lists, decode rows ===== -/
def RX0 : String := "Dotpress$Embosser"
def TX0 : u_T := fun k => match k with
  | 0 => ("Dotpress$Embosser", "wear", "LDotpress$Row;", true)
  | 1 => ("Dotpress$Embosser", "plan", "LDotpress$Row;", true)
  | _ => ("Dotpress$Embosser", "bearing", "I", false)
def tyX0 : Nat → FieldType := fun k => match k with
  | 0 => .object "Dotpress$Row"
  | 1 => .object "Dotpress$Row"
  | _ => .int
abbrev wsX00 : List Cond := u_ws RX0 TX0 3
theorem nmX0 : ∀ a, a < 3 → ∀ b, b < 3 → a ≠ b → (TX0 a).2.1 ≠ (TX0 b).2.1 := by decide +kernel
theorem tyX0_ok : ∀ k, k < 3 → parseFieldDescriptor (TX0 k).2.2.1 = some (tyX0 k) := by decide +kernel
abbrev cX0_init : ByteArray := prog_2_method_1_code
def yX0_init : MethodName := ⟨RX0, "<init>", "()V"⟩
abbrev cX0_changeBearing : ByteArray := prog_2_method_2_code
def yX0_changeBearing : MethodName := ⟨RX0, "changeBearing", "(I)I"⟩
abbrev cX0_wearOf : ByteArray := prog_2_method_3_code
def yX0_wearOf : MethodName := ⟨RX0, "wearOf", "(I)I"⟩
abbrev cX0_renewPin : ByteArray := prog_2_method_4_code
def yX0_renewPin : MethodName := ⟨RX0, "renewPin", "(I)I"⟩
abbrev cX0_wearOfAll : ByteArray := prog_2_method_5_code
def yX0_wearOfAll : MethodName := ⟨RX0, "wearOfAll", "()I"⟩
abbrev cX0_forgetPlan : ByteArray := prog_2_method_6_code
def yX0_forgetPlan : MethodName := ⟨RX0, "forgetPlan", "()V"⟩
abbrev cX0_planCell : ByteArray := prog_2_method_7_code
def yX0_planCell : MethodName := ⟨RX0, "planCell", "(I)V"⟩
abbrev cX0_bearsPlan : ByteArray := prog_2_method_8_code
def yX0_bearsPlan : MethodName := ⟨RX0, "bearsPlan", "()Z"⟩
abbrev cX0_strikePlan : ByteArray := prog_2_method_9_code
def yX0_strikePlan : MethodName := ⟨RX0, "strikePlan", "()V"⟩
def RX1 : String := "Dotpress$Pieces"
def TX1 : u_T := fun k => match k with
  | 0 => ("Dotpress$Pieces", "numbers", "LDotpress$Row;", true)
  | _ => ("Dotpress$Pieces", "ends", "LDotpress$Row;", true)
def tyX1 : Nat → FieldType := fun k => match k with
  | 0 => .object "Dotpress$Row"
  | _ => .object "Dotpress$Row"
abbrev wsX10 : List Cond := u_ws RX1 TX1 2
theorem nmX1 : ∀ a, a < 2 → ∀ b, b < 2 → a ≠ b → (TX1 a).2.1 ≠ (TX1 b).2.1 := by decide +kernel
theorem tyX1_ok : ∀ k, k < 2 → parseFieldDescriptor (TX1 k).2.2.1 = some (tyX1 k) := by decide +kernel
abbrev cX1_init : ByteArray := prog_3_method_1_code
def yX1_init : MethodName := ⟨RX1, "<init>", "(II)V"⟩
abbrev cX1_uncut : ByteArray := prog_3_method_2_code
def yX1_uncut : MethodName := ⟨RX1, "uncut", "()LDotpress$Row;"⟩
abbrev cX1_count : ByteArray := prog_3_method_3_code
def yX1_count : MethodName := ⟨RX1, "count", "()I"⟩
abbrev cX1_startOf : ByteArray := prog_3_method_4_code
def yX1_startOf : MethodName := ⟨RX1, "startOf", "(I)I"⟩
abbrev cX1_endOf : ByteArray := prog_3_method_5_code
def yX1_endOf : MethodName := ⟨RX1, "endOf", "(I)I"⟩
abbrev cX1_sizeOf : ByteArray := prog_3_method_6_code
def yX1_sizeOf : MethodName := ⟨RX1, "sizeOf", "(I)I"⟩
abbrev cX1_get : ByteArray := prog_3_method_7_code
def yX1_get : MethodName := ⟨RX1, "get", "(II)I"⟩
abbrev cX1_uncutSize : ByteArray := prog_3_method_8_code
def yX1_uncutSize : MethodName := ⟨RX1, "uncutSize", "()I"⟩
abbrev cX1_add : ByteArray := prog_3_method_9_code
def yX1_add : MethodName := ⟨RX1, "add", "(I)V"⟩
abbrev cX1_cut : ByteArray := prog_3_method_10_code
def yX1_cut : MethodName := ⟨RX1, "cut", "()V"⟩
abbrev cX1_empty : ByteArray := prog_3_method_11_code
def yX1_empty : MethodName := ⟨RX1, "empty", "()V"⟩
abbrev cX1_drop : ByteArray := prog_3_method_12_code
def yX1_drop : MethodName := ⟨RX1, "drop", "(I)V"⟩
abbrev cX1_isSame : ByteArray := prog_3_method_13_code
def yX1_isSame : MethodName := ⟨RX1, "isSame", "(ILDotpress$Row;II)Z"⟩
abbrev cX1_shares : ByteArray := prog_3_method_14_code
def yX1_shares : MethodName := ⟨RX1, "shares", "(ILDotpress$Pieces;)Z"⟩
abbrev cX1_takeOver : ByteArray := prog_3_method_15_code
def yX1_takeOver : MethodName := ⟨RX1, "takeOver", "(LDotpress$Pieces;)V"⟩
def RX2 : String := "Dotpress$Row"
def TX2 : u_T := fun k => match k with
  | 0 => ("Dotpress$Row", "numbers", "[I", true)
  | _ => ("Dotpress$Row", "count", "I", false)
def tyX2 : Nat → FieldType := fun k => match k with
  | 0 => .array .int
  | _ => .int
abbrev wsX20 : List Cond := u_ws RX2 TX2 2
theorem nmX2 : ∀ a, a < 2 → ∀ b, b < 2 → a ≠ b → (TX2 a).2.1 ≠ (TX2 b).2.1 := by decide +kernel
theorem tyX2_ok : ∀ k, k < 2 → parseFieldDescriptor (TX2 k).2.2.1 = some (tyX2 k) := by decide +kernel
abbrev cX2_init : ByteArray := prog_4_method_1_code
def yX2_init : MethodName := ⟨RX2, "<init>", "(I)V"⟩
abbrev cX2_count : ByteArray := prog_4_method_2_code
def yX2_count : MethodName := ⟨RX2, "count", "()I"⟩
abbrev cX2_isFull : ByteArray := prog_4_method_3_code
def yX2_isFull : MethodName := ⟨RX2, "isFull", "()Z"⟩
abbrev cX2_get : ByteArray := prog_4_method_4_code
def yX2_get : MethodName := ⟨RX2, "get", "(I)I"⟩
abbrev cX2_set : ByteArray := prog_4_method_5_code
def yX2_set : MethodName := ⟨RX2, "set", "(II)V"⟩
abbrev cX2_add : ByteArray := prog_4_method_6_code
def yX2_add : MethodName := ⟨RX2, "add", "(I)V"⟩
abbrev cX2_insert : ByteArray := prog_4_method_7_code
def yX2_insert : MethodName := ⟨RX2, "insert", "(II)V"⟩
abbrev cX2_remove : ByteArray := prog_4_method_8_code
def yX2_remove : MethodName := ⟨RX2, "remove", "(I)V"⟩
abbrev cX2_empty : ByteArray := prog_4_method_9_code
def yX2_empty : MethodName := ⟨RX2, "empty", "()V"⟩
abbrev cX2_placeOf : ByteArray := prog_4_method_10_code
def yX2_placeOf : MethodName := ⟨RX2, "placeOf", "(I)I"⟩
abbrev cX2_takeOver : ByteArray := prog_4_method_11_code
def yX2_takeOver : MethodName := ⟨RX2, "takeOver", "(LDotpress$Row;)V"⟩
def RX3 : String := "Dotpress$RuleBook"
def TX3 : u_T := fun k => match k with
  | 0 => ("Dotpress$RuleBook", "keys", "LDotpress$Row;", true)
  | 1 => ("Dotpress$RuleBook", "grades", "LDotpress$Row;", true)
  | 2 => ("Dotpress$RuleBook", "firsts", "LDotpress$Row;", true)
  | 3 => ("Dotpress$RuleBook", "seconds", "LDotpress$Row;", true)
  | _ => ("Dotpress$RuleBook", "exceptions", "LDotpress$Pieces;", true)
def tyX3 : Nat → FieldType := fun k => match k with
  | 0 => .object "Dotpress$Row"
  | 1 => .object "Dotpress$Row"
  | 2 => .object "Dotpress$Row"
  | 3 => .object "Dotpress$Row"
  | _ => .object "Dotpress$Pieces"
abbrev wsX30 : List Cond := u_ws RX3 TX3 5
theorem nmX3 : ∀ a, a < 5 → ∀ b, b < 5 → a ≠ b → (TX3 a).2.1 ≠ (TX3 b).2.1 := by decide +kernel
theorem tyX3_ok : ∀ k, k < 5 → parseFieldDescriptor (TX3 k).2.2.1 = some (tyX3 k) := by decide +kernel
abbrev cX3_init : ByteArray := prog_5_method_1_code
def yX3_init : MethodName := ⟨RX3, "<init>", "()V"⟩
abbrev cX3_keyOf : ByteArray := prog_5_method_2_code
def yX3_keyOf : MethodName := ⟨RX3, "keyOf", "(LDotpress$Row;II)I"⟩
abbrev cX3_count : ByteArray := prog_5_method_3_code
def yX3_count : MethodName := ⟨RX3, "count", "()I"⟩
abbrev cX3_isFull : ByteArray := prog_5_method_4_code
def yX3_isFull : MethodName := ⟨RX3, "isFull", "()Z"⟩
abbrev cX3_hasPlace : ByteArray := prog_5_method_5_code
def yX3_hasPlace : MethodName := ⟨RX3, "hasPlace", "(I)Z"⟩
abbrev cX3_placeOf : ByteArray := prog_5_method_6_code
def yX3_placeOf : MethodName := ⟨RX3, "placeOf", "(I)I"⟩
abbrev cX3_insert : ByteArray := prog_5_method_7_code
def yX3_insert : MethodName := ⟨RX3, "insert", "(IIII)I"⟩
abbrev cX3_alter : ByteArray := prog_5_method_8_code
def yX3_alter : MethodName := ⟨RX3, "alter", "(IIII)V"⟩
abbrev cX3_takeAway : ByteArray := prog_5_method_9_code
def yX3_takeAway : MethodName := ⟨RX3, "takeAway", "(I)V"⟩
abbrev cX3_letterAt : ByteArray := prog_5_method_10_code
def yX3_letterAt : MethodName := ⟨RX3, "letterAt", "(II)I"⟩
abbrev cX3_isInOrder : ByteArray := prog_5_method_11_code
def yX3_isInOrder : MethodName := ⟨RX3, "isInOrder", "()Z"⟩
abbrev cX3_placeOfException : ByteArray := prog_5_method_12_code
def yX3_placeOfException : MethodName := ⟨RX3, "placeOfException", "(LDotpress$Row;II)I"⟩
abbrev cX3_isFullOfExceptions : ByteArray := prog_5_method_13_code
def yX3_isFullOfExceptions : MethodName := ⟨RX3, "isFullOfExceptions", "()Z"⟩
abbrev cX3_addException : ByteArray := prog_5_method_14_code
def yX3_addException : MethodName := ⟨RX3, "addException", "(LDotpress$Row;)V"⟩
abbrev cX3_dropException : ByteArray := prog_5_method_15_code
def yX3_dropException : MethodName := ⟨RX3, "dropException", "(I)V"⟩
abbrev cX3_translate : ByteArray := prog_5_method_16_code
def yX3_translate : MethodName := ⟨RX3, "translate", "(LDotpress$Row;IIILDotpress$Pieces;)V"⟩
abbrev cX3_addCells : ByteArray := prog_5_method_17_code
def yX3_addCells : MethodName := ⟨RX3, "addCells", "(LDotpress$Row;IIILDotpress$Pieces;)I"⟩
def RX4 : String := "Dotpress$Text"
def TX4 : u_T := fun k => match k with
  | 0 => ("Dotpress$Text", "typed", "LDotpress$Pieces;", true)
  | 1 => ("Dotpress$Text", "cells", "LDotpress$Pieces;", true)
  | 2 => ("Dotpress$Text", "marks", "LDotpress$Row;", true)
  | 3 => ("Dotpress$Text", "laid", "LDotpress$Pieces;", true)
  | 4 => ("Dotpress$Text", "firstLines", "LDotpress$Row;", true)
  | 5 => ("Dotpress$Text", "embossed", "LDotpress$Pieces;", true)
  | _ => ("Dotpress$Text", "grade", "I", false)
def tyX4 : Nat → FieldType := fun k => match k with
  | 0 => .object "Dotpress$Pieces"
  | 1 => .object "Dotpress$Pieces"
  | 2 => .object "Dotpress$Row"
  | 3 => .object "Dotpress$Pieces"
  | 4 => .object "Dotpress$Row"
  | 5 => .object "Dotpress$Pieces"
  | _ => .int
abbrev wsX40 : List Cond := u_ws RX4 TX4 7
theorem nmX4 : ∀ a, a < 7 → ∀ b, b < 7 → a ≠ b → (TX4 a).2.1 ≠ (TX4 b).2.1 := by decide +kernel
theorem tyX4_ok : ∀ k, k < 7 → parseFieldDescriptor (TX4 k).2.2.1 = some (tyX4 k) := by decide +kernel
abbrev cX4_init : ByteArray := prog_6_method_1_code
def yX4_init : MethodName := ⟨RX4, "<init>", "()V"⟩
abbrev cX4_take : ByteArray := prog_6_method_2_code
def yX4_take : MethodName := ⟨RX4, "take", "(LDotpress$Row;I)V"⟩
abbrev cX4_translate : ByteArray := prog_6_method_3_code
def yX4_translate : MethodName := ⟨RX4, "translate", "(LDotpress$RuleBook;LDotpress$Pieces;)Z"⟩
abbrev cX4_lay : ByteArray := prog_6_method_4_code
def yX4_lay : MethodName := ⟨RX4, "lay", "(I)V"⟩
abbrev cX4_beginWord : ByteArray := prog_6_method_5_code
def yX4_beginWord : MethodName := ⟨RX4, "beginWord", "(II)V"⟩
abbrev cX4_wordCount : ByteArray := prog_6_method_6_code
def yX4_wordCount : MethodName := ⟨RX4, "wordCount", "()I"⟩
abbrev cX4_cellCount : ByteArray := prog_6_method_7_code
def yX4_cellCount : MethodName := ⟨RX4, "cellCount", "(I)I"⟩
abbrev cX4_cellAt : ByteArray := prog_6_method_8_code
def yX4_cellAt : MethodName := ⟨RX4, "cellAt", "(II)I"⟩
abbrev cX4_lineCount : ByteArray := prog_6_method_9_code
def yX4_lineCount : MethodName := ⟨RX4, "lineCount", "()I"⟩
abbrev cX4_lineSize : ByteArray := prog_6_method_10_code
def yX4_lineSize : MethodName := ⟨RX4, "lineSize", "(I)I"⟩
abbrev cX4_laidCellAt : ByteArray := prog_6_method_11_code
def yX4_laidCellAt : MethodName := ⟨RX4, "laidCellAt", "(II)I"⟩
abbrev cX4_firstLineOf : ByteArray := prog_6_method_12_code
def yX4_firstLineOf : MethodName := ⟨RX4, "firstLineOf", "(I)I"⟩
abbrev cX4_isOther : ByteArray := prog_6_method_13_code
def yX4_isOther : MethodName := ⟨RX4, "isOther", "(I)Z"⟩
abbrev cX4_otherLineCount : ByteArray := prog_6_method_14_code
def yX4_otherLineCount : MethodName := ⟨RX4, "otherLineCount", "()I"⟩
abbrev cX4_keepAsEmbossed : ByteArray := prog_6_method_15_code
def yX4_keepAsEmbossed : MethodName := ⟨RX4, "keepAsEmbossed", "()V"⟩
abbrev cX4_putMark : ByteArray := prog_6_method_16_code
def yX4_putMark : MethodName := ⟨RX4, "putMark", "(IIC)V"⟩
abbrev cX4_markBy : ByteArray := prog_6_method_17_code
def yX4_markBy : MethodName := ⟨RX4, "markBy", "(II)C"⟩
abbrev cX4_unmark : ByteArray := prog_6_method_18_code
def yX4_unmark : MethodName := ⟨RX4, "unmark", "(I)V"⟩
abbrev cX4_provedCount : ByteArray := prog_6_method_19_code
def yX4_provedCount : MethodName := ⟨RX4, "provedCount", "()I"⟩
abbrev cX4_sumOnto : ByteArray := prog_6_method_20_code
def yX4_sumOnto : MethodName := ⟨RX4, "sumOnto", "(J)J"⟩
abbrev cX4_isWellLaid : ByteArray := prog_6_method_21_code
def yX4_isWellLaid : MethodName := ⟨RX4, "isWellLaid", "(I)Z"⟩
def RX5 : String := "Dotpress"
def TX5 : u_T := fun k => match k with
  | 0 => ("Dotpress", "buffer", "LDotpress$Row;", true)
  | 1 => ("Dotpress", "rules", "LDotpress$RuleBook;", true)
  | 2 => ("Dotpress", "embosser", "LDotpress$Embosser;", true)
  | 3 => ("Dotpress", "texts", "[LDotpress$Text;", true)
  | 4 => ("Dotpress", "freshCells", "LDotpress$Pieces;", true)
  | 5 => ("Dotpress", "textCount", "I", false)
  | _ => ("Dotpress", "width", "I", false)
def tyX5 : Nat → FieldType := fun k => match k with
  | 0 => .object "Dotpress$Row"
  | 1 => .object "Dotpress$RuleBook"
  | 2 => .object "Dotpress$Embosser"
  | 3 => .array (.object "Dotpress$Text")
  | 4 => .object "Dotpress$Pieces"
  | 5 => .int
  | _ => .int
abbrev wsX50 : List Cond := u_ws RX5 TX5 7
theorem nmX5 : ∀ a, a < 7 → ∀ b, b < 7 → a ≠ b → (TX5 a).2.1 ≠ (TX5 b).2.1 := by decide +kernel
theorem tyX5_ok : ∀ k, k < 7 → parseFieldDescriptor (TX5 k).2.2.1 = some (tyX5 k) := by decide +kernel
abbrev cX5_init : ByteArray := prog_1_method_1_code
def yX5_init : MethodName := ⟨RX5, "<init>", "()V"⟩
abbrev cX5_type : ByteArray := prog_1_method_2_code
def yX5_type : MethodName := ⟨RX5, "type", "(C)I"⟩
abbrev cX5_clear : ByteArray := prog_1_method_3_code
def yX5_clear : MethodName := ⟨RX5, "clear", "()I"⟩
abbrev cX5_addRule : ByteArray := prog_1_method_4_code
def yX5_addRule : MethodName := ⟨RX5, "addRule", "(III)I"⟩
abbrev cX5_mend : ByteArray := prog_1_method_5_code
def yX5_mend : MethodName := ⟨RX5, "mend", "(III)I"⟩
abbrev cX5_removeRule : ByteArray := prog_1_method_6_code
def yX5_removeRule : MethodName := ⟨RX5, "removeRule", "(I)I"⟩
abbrev cX5_ruleAt : ByteArray := prog_1_method_7_code
def yX5_ruleAt : MethodName := ⟨RX5, "ruleAt", "(II)C"⟩
abbrev cX5_turnException : ByteArray := prog_1_method_8_code
def yX5_turnException : MethodName := ⟨RX5, "turnException", "()Z"⟩
abbrev cX5_setText : ByteArray := prog_1_method_9_code
def yX5_setText : MethodName := ⟨RX5, "setText", "(II)I"⟩
abbrev cX5_setWidth : ByteArray := prog_1_method_10_code
def yX5_setWidth : MethodName := ⟨RX5, "setWidth", "(I)I"⟩
abbrev cX5_words : ByteArray := prog_1_method_11_code
def yX5_words : MethodName := ⟨RX5, "words", "(I)I"⟩
abbrev cX5_length : ByteArray := prog_1_method_12_code
def yX5_length : MethodName := ⟨RX5, "length", "(II)I"⟩
abbrev cX5_cellOf : ByteArray := prog_1_method_13_code
def yX5_cellOf : MethodName := ⟨RX5, "cellOf", "(III)I"⟩
abbrev cX5_lines : ByteArray := prog_1_method_14_code
def yX5_lines : MethodName := ⟨RX5, "lines", "(I)I"⟩
abbrev cX5_lineAt : ByteArray := prog_1_method_15_code
def yX5_lineAt : MethodName := ⟨RX5, "lineAt", "(III)I"⟩
abbrev cX5_lineOf : ByteArray := prog_1_method_16_code
def yX5_lineOf : MethodName := ⟨RX5, "lineOf", "(II)I"⟩
abbrev cX5_emboss : ByteArray := prog_1_method_17_code
def yX5_emboss : MethodName := ⟨RX5, "emboss", "(I)I"⟩
abbrev cX5_changed : ByteArray := prog_1_method_18_code
def yX5_changed : MethodName := ⟨RX5, "changed", "(I)I"⟩
abbrev cX5_setBearing : ByteArray := prog_1_method_19_code
def yX5_setBearing : MethodName := ⟨RX5, "setBearing", "(I)I"⟩
abbrev cX5_replace : ByteArray := prog_1_method_20_code
def yX5_replace : MethodName := ⟨RX5, "replace", "(I)I"⟩
abbrev cX5_strikes : ByteArray := prog_1_method_21_code
def yX5_strikes : MethodName := ⟨RX5, "strikes", "(I)I"⟩
abbrev cX5_mark : ByteArray := prog_1_method_22_code
def yX5_mark : MethodName := ⟨RX5, "mark", "(IIIZ)Z"⟩
abbrev cX5_markOf : ByteArray := prog_1_method_23_code
def yX5_markOf : MethodName := ⟨RX5, "markOf", "(III)C"⟩
abbrev cX5_checksum : ByteArray := prog_1_method_24_code
def yX5_checksum : MethodName := ⟨RX5, "checksum", "()J"⟩
abbrev cX5_provedShare : ByteArray := prog_1_method_25_code
def yX5_provedShare : MethodName := ⟨RX5, "provedShare", "()F"⟩
abbrev cX5_meanStrikes : ByteArray := prog_1_method_26_code
def yX5_meanStrikes : MethodName := ⟨RX5, "meanStrikes", "()D"⟩
abbrev cX5_isSound : ByteArray := prog_1_method_27_code
def yX5_isSound : MethodName := ⟨RX5, "isSound", "()Z"⟩
abbrev cX5_isGrade : ByteArray := prog_1_method_28_code
def yX5_isGrade : MethodName := ⟨RX5, "isGrade", "(I)Z"⟩
abbrev cX5_isRule : ByteArray := prog_1_method_29_code
def yX5_isRule : MethodName := ⟨RX5, "isRule", "(III)Z"⟩
abbrev cX5_isReader : ByteArray := prog_1_method_30_code
def yX5_isReader : MethodName := ⟨RX5, "isReader", "(I)Z"⟩
abbrev cX5_typedKey : ByteArray := prog_1_method_31_code
def yX5_typedKey : MethodName := ⟨RX5, "typedKey", "()I"⟩
abbrev cX5_textNumbered : ByteArray := prog_1_method_32_code
def yX5_textNumbered : MethodName := ⟨RX5, "textNumbered", "(I)LDotpress$Text;"⟩
abbrev cX5_textWithWord : ByteArray := prog_1_method_33_code
def yX5_textWithWord : MethodName := ⟨RX5, "textWithWord", "(II)LDotpress$Text;"⟩
abbrev cX5_translateTexts : ByteArray := prog_1_method_34_code
def yX5_translateTexts : MethodName := ⟨RX5, "translateTexts", "()I"⟩
abbrev cX5_planLine : ByteArray := prog_1_method_35_code
def yX5_planLine : MethodName := ⟨RX5, "planLine", "(LDotpress$Text;I)V"⟩
def RX6 : String := "DotpressModel"
def TX6 : u_T := fun k => match k with
  | 0 => ("DotpressModel", "thrown", "I", false)
  | 1 => ("DotpressModel", "buffer", "[I", true)
  | 2 => ("DotpressModel", "typed", "I", false)
  | 3 => ("DotpressModel", "letters", "[I", true)
  | 4 => ("DotpressModel", "grade", "[I", true)
  | 5 => ("DotpressModel", "first", "[I", true)
  | 6 => ("DotpressModel", "second", "[I", true)
  | 7 => ("DotpressModel", "rules", "I", false)
  | 8 => ("DotpressModel", "exception", "[I", true)
  | 9 => ("DotpressModel", "exceptionLength", "[I", true)
  | 10 => ("DotpressModel", "exceptions", "I", false)
  | 11 => ("DotpressModel", "text", "[I", true)
  | 12 => ("DotpressModel", "textLength", "[I", true)
  | 13 => ("DotpressModel", "textGrade", "[I", true)
  | 14 => ("DotpressModel", "texts", "I", false)
  | 15 => ("DotpressModel", "width", "I", false)
  | 16 => ("DotpressModel", "embossed", "[I", true)
  | 17 => ("DotpressModel", "embossedLength", "[I", true)
  | 18 => ("DotpressModel", "embossedLines", "[I", true)
  | 19 => ("DotpressModel", "marks", "[I", true)
  | 20 => ("DotpressModel", "bears", "I", false)
  | 21 => ("DotpressModel", "strikes", "[I", true)
  | 22 => ("DotpressModel", "word", "[I", true)
  | 23 => ("DotpressModel", "wordCells", "I", false)
  | 24 => ("DotpressModel", "before", "[I", true)
  | 25 => ("DotpressModel", "line", "[I", true)
  | 26 => ("DotpressModel", "lineLength", "[I", true)
  | _ => ("DotpressModel", "lines", "I", false)
def tyX6 : Nat → FieldType := fun k => match k with
  | 0 => .int
  | 1 => .array .int
  | 2 => .int
  | 3 => .array .int
  | 4 => .array .int
  | 5 => .array .int
  | 6 => .array .int
  | 7 => .int
  | 8 => .array .int
  | 9 => .array .int
  | 10 => .int
  | 11 => .array .int
  | 12 => .array .int
  | 13 => .array .int
  | 14 => .int
  | 15 => .int
  | 16 => .array .int
  | 17 => .array .int
  | 18 => .array .int
  | 19 => .array .int
  | 20 => .int
  | 21 => .array .int
  | 22 => .array .int
  | 23 => .int
  | 24 => .array .int
  | 25 => .array .int
  | 26 => .array .int
  | _ => .int
abbrev wsX60 : List Cond := u_ws RX6 TX6 28
theorem nmX6 : ∀ a, a < 28 → ∀ b, b < 28 → a ≠ b → (TX6 a).2.1 ≠ (TX6 b).2.1 := by decide +kernel
theorem tyX6_ok : ∀ k, k < 28 → parseFieldDescriptor (TX6 k).2.2.1 = some (tyX6 k) := by decide +kernel
abbrev cX6_init : ByteArray := prog_8_method_1_code
def yX6_init : MethodName := ⟨RX6, "<init>", "()V"⟩
abbrev cX6_thrown : ByteArray := prog_8_method_2_code
def yX6_thrown : MethodName := ⟨RX6, "thrown", "()I"⟩
abbrev cX6_in : ByteArray := prog_8_method_3_code
def yX6_in : MethodName := ⟨RX6, "in", "(III)Z"⟩
abbrev cX6_goesOn : ByteArray := prog_8_method_4_code
def yX6_goesOn : MethodName := ⟨RX6, "goesOn", "(I)Z"⟩
abbrev cX6_type : ByteArray := prog_8_method_5_code
def yX6_type : MethodName := ⟨RX6, "type", "(C)I"⟩
abbrev cX6_clear : ByteArray := prog_8_method_6_code
def yX6_clear : MethodName := ⟨RX6, "clear", "()I"⟩
abbrev cX6_hasBlank : ByteArray := prog_8_method_7_code
def yX6_hasBlank : MethodName := ⟨RX6, "hasBlank", "()Z"⟩
abbrev cX6_ruleLetters : ByteArray := prog_8_method_8_code
def yX6_ruleLetters : MethodName := ⟨RX6, "ruleLetters", "()I"⟩
abbrev cX6_power : ByteArray := prog_8_method_9_code
def yX6_power : MethodName := ⟨RX6, "power", "(I)I"⟩
abbrev cX6_letterOf : ByteArray := prog_8_method_10_code
def yX6_letterOf : MethodName := ⟨RX6, "letterOf", "(II)I"⟩
abbrev cX6_lengthOf : ByteArray := prog_8_method_11_code
def yX6_lengthOf : MethodName := ⟨RX6, "lengthOf", "(I)I"⟩
abbrev cX6_ruleOf : ByteArray := prog_8_method_12_code
def yX6_ruleOf : MethodName := ⟨RX6, "ruleOf", "(I)I"⟩
abbrev cX6_areFine : ByteArray := prog_8_method_13_code
def yX6_areFine : MethodName := ⟨RX6, "areFine", "(III)Z"⟩
abbrev cX6_moves : ByteArray := prog_8_method_14_code
def yX6_moves : MethodName := ⟨RX6, "moves", "(II)V"⟩
abbrev cX6_puts : ByteArray := prog_8_method_15_code
def yX6_puts : MethodName := ⟨RX6, "puts", "(IIIII)V"⟩
abbrev cX6_addRule : ByteArray := prog_8_method_16_code
def yX6_addRule : MethodName := ⟨RX6, "addRule", "(III)I"⟩
abbrev cX6_mend : ByteArray := prog_8_method_17_code
def yX6_mend : MethodName := ⟨RX6, "mend", "(III)I"⟩
abbrev cX6_removeRule : ByteArray := prog_8_method_18_code
def yX6_removeRule : MethodName := ⟨RX6, "removeRule", "(I)I"⟩
abbrev cX6_ruleAt : ByteArray := prog_8_method_19_code
def yX6_ruleAt : MethodName := ⟨RX6, "ruleAt", "(II)C"⟩
abbrev cX6_isThis : ByteArray := prog_8_method_20_code
def yX6_isThis : MethodName := ⟨RX6, "isThis", "(III)Z"⟩
abbrev cX6_isException : ByteArray := prog_8_method_21_code
def yX6_isException : MethodName := ⟨RX6, "isException", "(II)Z"⟩
abbrev cX6_exceptionInBuffer : ByteArray := prog_8_method_22_code
def yX6_exceptionInBuffer : MethodName := ⟨RX6, "exceptionInBuffer", "()I"⟩
abbrev cX6_turnException : ByteArray := prog_8_method_23_code
def yX6_turnException : MethodName := ⟨RX6, "turnException", "()Z"⟩
abbrev cX6_isBegin : ByteArray := prog_8_method_24_code
def yX6_isBegin : MethodName := ⟨RX6, "isBegin", "(II)Z"⟩
abbrev cX6_wordsOf : ByteArray := prog_8_method_25_code
def yX6_wordsOf : MethodName := ⟨RX6, "wordsOf", "(I)I"⟩
abbrev cX6_beginOf : ByteArray := prog_8_method_26_code
def yX6_beginOf : MethodName := ⟨RX6, "beginOf", "(II)I"⟩
abbrev cX6_letterCount : ByteArray := prog_8_method_27_code
def yX6_letterCount : MethodName := ⟨RX6, "letterCount", "(II)I"⟩
abbrev cX6_stands : ByteArray := prog_8_method_28_code
def yX6_stands : MethodName := ⟨RX6, "stands", "(III)Z"⟩
abbrev cX6_longest : ByteArray := prog_8_method_29_code
def yX6_longest : MethodName := ⟨RX6, "longest", "(IIII)I"⟩
abbrev cX6_translates : ByteArray := prog_8_method_30_code
def yX6_translates : MethodName := ⟨RX6, "translates", "(II)V"⟩
abbrev cX6_keepsCells : ByteArray := prog_8_method_31_code
def yX6_keepsCells : MethodName := ⟨RX6, "keepsCells", "()V"⟩
abbrev cX6_textsChanged : ByteArray := prog_8_method_32_code
def yX6_textsChanged : MethodName := ⟨RX6, "textsChanged", "()I"⟩
abbrev cX6_isText : ByteArray := prog_8_method_33_code
def yX6_isText : MethodName := ⟨RX6, "isText", "(I)Z"⟩
abbrev cX6_setText : ByteArray := prog_8_method_34_code
def yX6_setText : MethodName := ⟨RX6, "setText", "(II)I"⟩
abbrev cX6_setWidth : ByteArray := prog_8_method_35_code
def yX6_setWidth : MethodName := ⟨RX6, "setWidth", "(I)I"⟩
abbrev cX6_words : ByteArray := prog_8_method_36_code
def yX6_words : MethodName := ⟨RX6, "words", "(I)I"⟩
abbrev cX6_isWord : ByteArray := prog_8_method_37_code
def yX6_isWord : MethodName := ⟨RX6, "isWord", "(II)Z"⟩
abbrev cX6_length : ByteArray := prog_8_method_38_code
def yX6_length : MethodName := ⟨RX6, "length", "(II)I"⟩
abbrev cX6_cellOf : ByteArray := prog_8_method_39_code
def yX6_cellOf : MethodName := ⟨RX6, "cellOf", "(III)I"⟩
abbrev cX6_addsCell : ByteArray := prog_8_method_40_code
def yX6_addsCell : MethodName := ⟨RX6, "addsCell", "(I)V"⟩
abbrev cX6_begins : ByteArray := prog_8_method_41_code
def yX6_begins : MethodName := ⟨RX6, "begins", "()V"⟩
abbrev cX6_breaks : ByteArray := prog_8_method_42_code
def yX6_breaks : MethodName := ⟨RX6, "breaks", "(II)I"⟩
abbrev cX6_lines : ByteArray := prog_8_method_43_code
def yX6_lines : MethodName := ⟨RX6, "lines", "(I)I"⟩
abbrev cX6_lineAt : ByteArray := prog_8_method_44_code
def yX6_lineAt : MethodName := ⟨RX6, "lineAt", "(III)I"⟩
abbrev cX6_lineOf : ByteArray := prog_8_method_45_code
def yX6_lineOf : MethodName := ⟨RX6, "lineOf", "(II)I"⟩
abbrev cX6_isEmbossed : ByteArray := prog_8_method_46_code
def yX6_isEmbossed : MethodName := ⟨RX6, "isEmbossed", "(II)Z"⟩
abbrev cX6_due : ByteArray := prog_8_method_47_code
def yX6_due : MethodName := ⟨RX6, "due", "(II)I"⟩
abbrev cX6_isWorn : ByteArray := prog_8_method_48_code
def yX6_isWorn : MethodName := ⟨RX6, "isWorn", "(I)Z"⟩
abbrev cX6_emboss : ByteArray := prog_8_method_49_code
def yX6_emboss : MethodName := ⟨RX6, "emboss", "(I)I"⟩
abbrev cX6_changed : ByteArray := prog_8_method_50_code
def yX6_changed : MethodName := ⟨RX6, "changed", "(I)I"⟩
abbrev cX6_setBearing : ByteArray := prog_8_method_51_code
def yX6_setBearing : MethodName := ⟨RX6, "setBearing", "(I)I"⟩
abbrev cX6_replace : ByteArray := prog_8_method_52_code
def yX6_replace : MethodName := ⟨RX6, "replace", "(I)I"⟩
abbrev cX6_strikes : ByteArray := prog_8_method_53_code
def yX6_strikes : MethodName := ⟨RX6, "strikes", "(I)I"⟩
abbrev cX6_mark : ByteArray := prog_8_method_54_code
def yX6_mark : MethodName := ⟨RX6, "mark", "(IIIZ)Z"⟩
abbrev cX6_markOf : ByteArray := prog_8_method_55_code
def yX6_markOf : MethodName := ⟨RX6, "markOf", "(III)C"⟩
abbrev cX6_checksum : ByteArray := prog_8_method_56_code
def yX6_checksum : MethodName := ⟨RX6, "checksum", "()J"⟩
abbrev cX6_provedShare : ByteArray := prog_8_method_57_code
def yX6_provedShare : MethodName := ⟨RX6, "provedShare", "()F"⟩
abbrev cX6_meanStrikes : ByteArray := prog_8_method_58_code
def yX6_meanStrikes : MethodName := ⟨RX6, "meanStrikes", "()D"⟩
abbrev cX6_isSound : ByteArray := prog_8_method_59_code
def yX6_isSound : MethodName := ⟨RX6, "isSound", "()Z"⟩
def RJx145de : String := "java/io/Serializable"
def TJx145de : u_T := fun k => match k with
  | _ => ("", "", "", false)
def tyJx145de : Nat → FieldType := fun k => match k with
  | _ => .int
abbrev wsJx145de0 : List Cond := u_ws RJx145de TJx145de 0
theorem nmJx145de : ∀ a, a < 0 → ∀ b, b < 0 → a ≠ b → (TJx145de a).2.1 ≠ (TJx145de b).2.1 := by decide +kernel
theorem tyJx145de_ok : ∀ k, k < 0 → parseFieldDescriptor (TJx145de k).2.2.1 = some (tyJx145de k) := by decide +kernel
def RJx00060 : String := "java/lang/ArrayIndexOutOfBoundsException"
def TJx00060 : u_T := fun k => match k with
  | 0 => ("java/lang/Throwable", "backtrace", "Ljava/lang/Object;", false)
  | 1 => ("java/lang/Throwable", "detailMessage", "Ljava/lang/String;", false)
  | 2 => ("java/lang/Throwable", "cause", "Ljava/lang/Throwable;", false)
  | 3 => ("java/lang/Throwable", "stackTrace", "[Ljava/lang/StackTraceElement;", false)
  | 4 => ("java/lang/Throwable", "depth", "I", false)
  | _ => ("java/lang/Throwable", "suppressedExceptions", "Ljava/util/List;", false)
def tyJx00060 : Nat → FieldType := fun k => match k with
  | 0 => .object "java/lang/Object"
  | 1 => .object "java/lang/String"
  | 2 => .object "java/lang/Throwable"
  | 3 => .array (.object "java/lang/StackTraceElement")
  | 4 => .int
  | _ => .object "java/util/List"
abbrev wsJx000600 : List Cond := u_ws RJx00060 TJx00060 6
theorem nmJx00060 : ∀ a, a < 6 → ∀ b, b < 6 → a ≠ b → (TJx00060 a).2.1 ≠ (TJx00060 b).2.1 := by decide +kernel
theorem tyJx00060_ok : ∀ k, k < 6 → parseFieldDescriptor (TJx00060 k).2.2.1 = some (tyJx00060 k) := by decide +kernel
abbrev cJx00060_init_a7421 : ByteArray := prog_11_method_2_code
def yJx00060_init_a7421 : MethodName := ⟨RJx00060, "<init>", "(Ljava/lang/String;)V"⟩
def RJ9 : String := "java/lang/Math"
def TJ9 : u_T := fun k => match k with
  | _ => ("", "", "", false)
def tyJ9 : Nat → FieldType := fun k => match k with
  | _ => .int
abbrev wsJ90 : List Cond := u_ws RJ9 TJ9 0
theorem nmJ9 : ∀ a, a < 0 → ∀ b, b < 0 → a ≠ b → (TJ9 a).2.1 ≠ (TJ9 b).2.1 := by decide +kernel
theorem tyJ9_ok : ∀ k, k < 0 → parseFieldDescriptor (TJ9 k).2.2.1 = some (tyJ9 k) := by decide +kernel
abbrev cJ9_max_7cf53 : ByteArray := prog_16_method_65_code
def yJ9_max_7cf53 : MethodName := ⟨RJ9, "max", "(II)I"⟩
abbrev cJ9_min_7cf53 : ByteArray := prog_16_method_69_code
def yJ9_min_7cf53 : MethodName := ⟨RJ9, "min", "(II)I"⟩
def RJ0 : String := "java/lang/String"
def TJ0 : u_T := fun k => match k with
  | 0 => ("java/lang/String", "value", "[B", true)
  | _ => ("java/lang/String", "coder", "B", true)
def tyJ0 : Nat → FieldType := fun k => match k with
  | 0 => .array .byte
  | _ => .byte
abbrev wsJ00 : List Cond := u_ws RJ0 TJ0 2
theorem nmJ0 : ∀ a, a < 2 → ∀ b, b < 2 → a ≠ b → (TJ0 a).2.1 ≠ (TJ0 b).2.1 := by decide +kernel
theorem tyJ0_ok : ∀ k, k < 2 → parseFieldDescriptor (TJ0 k).2.2.1 = some (tyJ0 k) := by decide +kernel
def RJ10 : String := "java/lang/System"
def TJ10 : u_T := fun k => match k with
  | _ => ("", "", "", false)
def tyJ10 : Nat → FieldType := fun k => match k with
  | _ => .int
abbrev wsJ100 : List Cond := u_ws RJ10 TJ10 0
theorem nmJ10 : ∀ a, a < 0 → ∀ b, b < 0 → a ≠ b → (TJ10 a).2.1 ≠ (TJ10 b).2.1 := by decide +kernel
theorem tyJ10_ok : ∀ k, k < 0 → parseFieldDescriptor (TJ10 k).2.2.1 = some (tyJ10 k) := by decide +kernel
def RL : String := "DotpressLaw"
abbrev cL_type : ByteArray := method_3_code
def yL_type : MethodName := ⟨RL, "type", "(LDotpress;C[J)I"⟩
abbrev cL_addRule : ByteArray := method_4_code
def yL_addRule : MethodName := ⟨RL, "addRule", "(LDotpress;III[J)I"⟩
abbrev cL_mend : ByteArray := method_5_code
def yL_mend : MethodName := ⟨RL, "mend", "(LDotpress;III[J)I"⟩
abbrev cL_removeRule : ByteArray := method_6_code
def yL_removeRule : MethodName := ⟨RL, "removeRule", "(LDotpress;I[J)I"⟩
abbrev cL_ruleAt : ByteArray := method_7_code
def yL_ruleAt : MethodName := ⟨RL, "ruleAt", "(LDotpress;II[J)I"⟩
abbrev cL_turnException : ByteArray := method_8_code
def yL_turnException : MethodName := ⟨RL, "turnException", "(LDotpress;[J)I"⟩
abbrev cL_setText : ByteArray := method_9_code
def yL_setText : MethodName := ⟨RL, "setText", "(LDotpress;II[J)I"⟩
abbrev cL_setWidth : ByteArray := method_10_code
def yL_setWidth : MethodName := ⟨RL, "setWidth", "(LDotpress;I[J)I"⟩
abbrev cL_words : ByteArray := method_11_code
def yL_words : MethodName := ⟨RL, "words", "(LDotpress;I[J)I"⟩
abbrev cL_length : ByteArray := method_12_code
def yL_length : MethodName := ⟨RL, "length", "(LDotpress;II[J)I"⟩
abbrev cL_cellOf : ByteArray := method_13_code
def yL_cellOf : MethodName := ⟨RL, "cellOf", "(LDotpress;III[J)I"⟩
abbrev cL_lines : ByteArray := method_14_code
def yL_lines : MethodName := ⟨RL, "lines", "(LDotpress;I[J)I"⟩
abbrev cL_lineAt : ByteArray := method_15_code
def yL_lineAt : MethodName := ⟨RL, "lineAt", "(LDotpress;III[J)I"⟩
abbrev cL_lineOf : ByteArray := method_16_code
def yL_lineOf : MethodName := ⟨RL, "lineOf", "(LDotpress;II[J)I"⟩
abbrev cL_emboss : ByteArray := method_17_code
def yL_emboss : MethodName := ⟨RL, "emboss", "(LDotpress;I[J)I"⟩
abbrev cL_changed : ByteArray := method_18_code
def yL_changed : MethodName := ⟨RL, "changed", "(LDotpress;I[J)I"⟩
abbrev cL_setBearing : ByteArray := method_19_code
def yL_setBearing : MethodName := ⟨RL, "setBearing", "(LDotpress;I[J)I"⟩
abbrev cL_replace : ByteArray := method_20_code
def yL_replace : MethodName := ⟨RL, "replace", "(LDotpress;I[J)I"⟩
abbrev cL_strikes : ByteArray := method_21_code
def yL_strikes : MethodName := ⟨RL, "strikes", "(LDotpress;I[J)I"⟩
abbrev cL_mark : ByteArray := method_22_code
def yL_mark : MethodName := ⟨RL, "mark", "(LDotpress;IIIZ[J)I"⟩
abbrev cL_markOf : ByteArray := method_23_code
def yL_markOf : MethodName := ⟨RL, "markOf", "(LDotpress;III[J)I"⟩
abbrev cL_provedShare : ByteArray := method_24_code
def yL_provedShare : MethodName := ⟨RL, "provedShare", "(LDotpress;[D)I"⟩
abbrev cL_law : ByteArray := code
def yL_law : MethodName := ⟨RL, "law", "([I)Z"⟩

abbrev jCl : List vw_C := [(RX0, TX0, 3), (RX1, TX1, 2), (RX2, TX2, 2), (RX3, TX3, 5), (RX4, TX4, 7), (RX5, TX5, 7), (RX6, TX6, 28)]
end
section
/-! the words of the tables by their places (program: wip/gen/words.py) -/
def gT : List Cond := lw_tbl.filter goodWord
theorem gT_mem {i : Nat} {w : Cond} (h : lw_tbl[i]? = some w) (hg : goodWord w = true) : w ∈ gT := List.mem_filter.mpr ⟨List.mem_of_getElem? h, hg⟩
theorem gT_sub : ∀ w ∈ gT, w ∈ lw_tbl := fun _ h => (List.mem_filter.mp h).1
theorem gT_good : ∀ w ∈ gT, goodWord w = true := fun _ h => (List.mem_filter.mp h).2
theorem ini_L : Cond.initialized RL ∈ gT := gT_mem (i := 37) (by decide +kernel) (by decide +kernel)
theorem ini_X5 : Cond.initialized RX5 ∈ gT := gT_mem (i := 38) (by decide +kernel) (by decide +kernel)
theorem ini_X2 : Cond.initialized RX2 ∈ gT := gT_mem (i := 39) (by decide +kernel) (by decide +kernel)
theorem ini_X3 : Cond.initialized RX3 ∈ gT := gT_mem (i := 40) (by decide +kernel) (by decide +kernel)
theorem ini_X1 : Cond.initialized RX1 ∈ gT := gT_mem (i := 41) (by decide +kernel) (by decide +kernel)
theorem ini_X0 : Cond.initialized RX0 ∈ gT := gT_mem (i := 42) (by decide +kernel) (by decide +kernel)
theorem ini_X6 : Cond.initialized RX6 ∈ gT := gT_mem (i := 43) (by decide +kernel) (by decide +kernel)
theorem ini_Throwable : Cond.initialized "java/lang/Throwable" ∈ gT := gT_mem (i := 44) (by decide +kernel) (by decide +kernel)
theorem ini_Exception : Cond.initialized "java/lang/Exception" ∈ gT := gT_mem (i := 45) (by decide +kernel) (by decide +kernel)
theorem ini_RuntimeException : Cond.initialized "java/lang/RuntimeException" ∈ gT := gT_mem (i := 46) (by decide +kernel) (by decide +kernel)
theorem ini_IllegalArgumentException : Cond.initialized "java/lang/IllegalArgumentException" ∈ gT := gT_mem (i := 47) (by decide +kernel) (by decide +kernel)
theorem ini_IllegalStateException : Cond.initialized "java/lang/IllegalStateException" ∈ gT := gT_mem (i := 48) (by decide +kernel) (by decide +kernel)
theorem ini_UnsupportedOperationException : Cond.initialized "java/lang/UnsupportedOperationException" ∈ gT := gT_mem (i := 49) (by decide +kernel) (by decide +kernel)
theorem ini_J10 : Cond.initialized RJ10 ∈ gT := gT_mem (i := 50) (by decide +kernel) (by decide +kernel)
theorem ini_J9 : Cond.initialized RJ9 ∈ gT := gT_mem (i := 51) (by decide +kernel) (by decide +kernel)
theorem ini_NoSuchElementException : Cond.initialized "java/util/NoSuchElementException" ∈ gT := gT_mem (i := 52) (by decide +kernel) (by decide +kernel)
theorem ini_IndexOutOfBoundsException : Cond.initialized "java/lang/IndexOutOfBoundsException" ∈ gT := gT_mem (i := 53) (by decide +kernel) (by decide +kernel)
theorem ini_Jx00060 : Cond.initialized RJx00060 ∈ gT := gT_mem (i := 54) (by decide +kernel) (by decide +kernel)
theorem ini_J0 : Cond.initialized RJ0 ∈ gT := gT_mem (i := 55) (by decide +kernel) (by decide +kernel)
theorem ini_X4 : Cond.initialized RX4 ∈ gT := gT_mem (i := 56) (by decide +kernel) (by decide +kernel)
theorem ini_ArithmeticException : Cond.initialized "java/lang/ArithmeticException" ∈ gT := gT_mem (i := 57) (by decide +kernel) (by decide +kernel)
theorem cl_L_8 : Cond.classLink RL 8 RX5 ∈ gT := gT_mem (i := 58) (by decide +kernel) (by decide +kernel)
theorem ins_X5 : Cond.instantiable RX5 7 ∈ gT := gT_mem (i := 59) (by decide +kernel) (by decide +kernel)
theorem ml_L_96 : Cond.methodLink RL 96 yX5_init ∈ gT := gT_mem (i := 60) (by decide +kernel) (by decide +kernel)
theorem im_yX5_init : Cond.instanceMethod yX5_init ∈ gT := gT_mem (i := 61) (by decide +kernel) (by decide +kernel)
theorem cd_yX5_init : Cond.code yX5_init cX5_init 1 none ∈ gT := gT_mem (i := 62) (by decide +kernel) (by decide +kernel)
theorem ml_X5_3 : Cond.methodLink RX5 3 ⟨"java/lang/Object", "<init>", "()V"⟩ ∈ gT := gT_mem (i := 63) (by decide +kernel) (by decide +kernel)
theorem cl_X5_9 : Cond.classLink RX5 9 RX2 ∈ gT := gT_mem (i := 66) (by decide +kernel) (by decide +kernel)
theorem ins_X2 : Cond.instantiable RX2 2 ∈ gT := gT_mem (i := 67) (by decide +kernel) (by decide +kernel)
theorem ml_X5_11 : Cond.methodLink RX5 11 yX2_init ∈ gT := gT_mem (i := 68) (by decide +kernel) (by decide +kernel)
theorem im_yX2_init : Cond.instanceMethod yX2_init ∈ gT := gT_mem (i := 69) (by decide +kernel) (by decide +kernel)
theorem cd_yX2_init : Cond.code yX2_init cX2_init 2 none ∈ gT := gT_mem (i := 70) (by decide +kernel) (by decide +kernel)
theorem ml_X2_3 : Cond.methodLink RX2 3 ⟨"java/lang/Object", "<init>", "()V"⟩ ∈ gT := gT_mem (i := 71) (by decide +kernel) (by decide +kernel)
theorem fl_X2_15 : Cond.fieldLink RX2 15 "Dotpress$Row" "numbers" "[I" ∈ gT := gT_mem (i := 72) (by decide +kernel) (by decide +kernel)
theorem fl_X2_9 : Cond.fieldLink RX2 9 "Dotpress$Row" "count" "I" ∈ gT := gT_mem (i := 73) (by decide +kernel) (by decide +kernel)
theorem ac_int : Cond.arrayClass .int ∈ gT := gT_mem (i := 79) (by decide +kernel) (by decide +kernel)
theorem cl_X5_18 : Cond.classLink RX5 18 RX3 ∈ gT := gT_mem (i := 80) (by decide +kernel) (by decide +kernel)
theorem ins_X3 : Cond.instantiable RX3 5 ∈ gT := gT_mem (i := 81) (by decide +kernel) (by decide +kernel)
theorem mn_X5_20 : Cond.methodLinkNest RX5 20 yX3_init RX5 ∈ lw_tbl := List.mem_of_getElem? (i := 82) (by decide +kernel)
theorem im_yX3_init : Cond.instanceMethod yX3_init ∈ gT := gT_mem (i := 83) (by decide +kernel) (by decide +kernel)
theorem cd_yX3_init : Cond.code yX3_init cX3_init 1 none ∈ gT := gT_mem (i := 84) (by decide +kernel) (by decide +kernel)
theorem ml_X3_5 : Cond.methodLink RX3 5 ⟨"java/lang/Object", "<init>", "()V"⟩ ∈ gT := gT_mem (i := 85) (by decide +kernel) (by decide +kernel)
theorem cl_X3_11 : Cond.classLink RX3 11 RX2 ∈ gT := gT_mem (i := 86) (by decide +kernel) (by decide +kernel)
theorem ml_X3_13 : Cond.methodLink RX3 13 yX2_init ∈ gT := gT_mem (i := 87) (by decide +kernel) (by decide +kernel)
theorem cl_X3_29 : Cond.classLink RX3 29 RX1 ∈ gT := gT_mem (i := 88) (by decide +kernel) (by decide +kernel)
theorem ins_X1 : Cond.instantiable RX1 2 ∈ gT := gT_mem (i := 89) (by decide +kernel) (by decide +kernel)
theorem ml_X3_31 : Cond.methodLink RX3 31 yX1_init ∈ gT := gT_mem (i := 90) (by decide +kernel) (by decide +kernel)
theorem im_yX1_init : Cond.instanceMethod yX1_init ∈ gT := gT_mem (i := 91) (by decide +kernel) (by decide +kernel)
theorem cd_yX1_init : Cond.code yX1_init cX1_init 3 none ∈ gT := gT_mem (i := 92) (by decide +kernel) (by decide +kernel)
theorem ml_X1_1 : Cond.methodLink RX1 1 ⟨"java/lang/Object", "<init>", "()V"⟩ ∈ gT := gT_mem (i := 93) (by decide +kernel) (by decide +kernel)
theorem cl_X1_7 : Cond.classLink RX1 7 RX2 ∈ gT := gT_mem (i := 94) (by decide +kernel) (by decide +kernel)
theorem ml_X1_9 : Cond.methodLink RX1 9 yX2_init ∈ gT := gT_mem (i := 95) (by decide +kernel) (by decide +kernel)
theorem fl_X1_12 : Cond.fieldLink RX1 12 "Dotpress$Pieces" "numbers" "LDotpress$Row;" ∈ gT := gT_mem (i := 96) (by decide +kernel) (by decide +kernel)
theorem fl_X1_18 : Cond.fieldLink RX1 18 "Dotpress$Pieces" "ends" "LDotpress$Row;" ∈ gT := gT_mem (i := 97) (by decide +kernel) (by decide +kernel)
theorem fl_X3_16 : Cond.fieldLink RX3 16 "Dotpress$RuleBook" "keys" "LDotpress$Row;" ∈ gT := gT_mem (i := 103) (by decide +kernel) (by decide +kernel)
theorem fl_X3_20 : Cond.fieldLink RX3 20 "Dotpress$RuleBook" "grades" "LDotpress$Row;" ∈ gT := gT_mem (i := 104) (by decide +kernel) (by decide +kernel)
theorem fl_X3_23 : Cond.fieldLink RX3 23 "Dotpress$RuleBook" "firsts" "LDotpress$Row;" ∈ gT := gT_mem (i := 105) (by decide +kernel) (by decide +kernel)
theorem fl_X3_26 : Cond.fieldLink RX3 26 "Dotpress$RuleBook" "seconds" "LDotpress$Row;" ∈ gT := gT_mem (i := 106) (by decide +kernel) (by decide +kernel)
theorem fl_X3_34 : Cond.fieldLink RX3 34 "Dotpress$RuleBook" "exceptions" "LDotpress$Pieces;" ∈ gT := gT_mem (i := 107) (by decide +kernel) (by decide +kernel)
theorem cl_X5_25 : Cond.classLink RX5 25 RX0 ∈ gT := gT_mem (i := 119) (by decide +kernel) (by decide +kernel)
theorem ins_X0 : Cond.instantiable RX0 3 ∈ gT := gT_mem (i := 120) (by decide +kernel) (by decide +kernel)
theorem ml_X5_27 : Cond.methodLink RX5 27 yX0_init ∈ gT := gT_mem (i := 121) (by decide +kernel) (by decide +kernel)
theorem im_yX0_init : Cond.instanceMethod yX0_init ∈ gT := gT_mem (i := 122) (by decide +kernel) (by decide +kernel)
theorem cd_yX0_init : Cond.code yX0_init cX0_init 2 none ∈ gT := gT_mem (i := 123) (by decide +kernel) (by decide +kernel)
theorem ml_X0_3 : Cond.methodLink RX0 3 ⟨"java/lang/Object", "<init>", "()V"⟩ ∈ gT := gT_mem (i := 124) (by decide +kernel) (by decide +kernel)
theorem cl_X0_9 : Cond.classLink RX0 9 RX2 ∈ gT := gT_mem (i := 125) (by decide +kernel) (by decide +kernel)
theorem ml_X0_11 : Cond.methodLink RX0 11 yX2_init ∈ gT := gT_mem (i := 126) (by decide +kernel) (by decide +kernel)
theorem ml_X0_27 : Cond.methodLink RX0 27 yX2_add ∈ gT := gT_mem (i := 127) (by decide +kernel) (by decide +kernel)
theorem im_yX2_add : Cond.instanceMethod yX2_add ∈ gT := gT_mem (i := 128) (by decide +kernel) (by decide +kernel)
theorem se_yX2_add : Cond.selects RX2 yX2_add yX2_add ∈ gT := gT_mem (i := 129) (by decide +kernel) (by decide +kernel)
theorem cd_yX2_add : Cond.code yX2_add cX2_add 2 none ∈ gT := gT_mem (i := 130) (by decide +kernel) (by decide +kernel)
theorem fl_X0_14 : Cond.fieldLink RX0 14 "Dotpress$Embosser" "wear" "LDotpress$Row;" ∈ gT := gT_mem (i := 131) (by decide +kernel) (by decide +kernel)
theorem fl_X0_20 : Cond.fieldLink RX0 20 "Dotpress$Embosser" "plan" "LDotpress$Row;" ∈ gT := gT_mem (i := 132) (by decide +kernel) (by decide +kernel)
theorem fl_X0_23 : Cond.fieldLink RX0 23 "Dotpress$Embosser" "bearing" "I" ∈ gT := gT_mem (i := 133) (by decide +kernel) (by decide +kernel)
theorem cl_X5_32 : Cond.classLink RX5 32 RX4 ∈ gT := gT_mem (i := 141) (by decide +kernel) (by decide +kernel)
theorem ao_Text : Cond.arrayOver (.object RX4) ∈ lw_tbl := List.mem_of_getElem? (i := 142) (by decide +kernel)
theorem cl_X5_38 : Cond.classLink RX5 38 RX1 ∈ gT := gT_mem (i := 143) (by decide +kernel) (by decide +kernel)
theorem ml_X5_40 : Cond.methodLink RX5 40 yX1_init ∈ gT := gT_mem (i := 144) (by decide +kernel) (by decide +kernel)
theorem fl_X5_14 : Cond.fieldLink RX5 14 "Dotpress" "buffer" "LDotpress$Row;" ∈ gT := gT_mem (i := 145) (by decide +kernel) (by decide +kernel)
theorem fl_X5_21 : Cond.fieldLink RX5 21 "Dotpress" "rules" "LDotpress$RuleBook;" ∈ gT := gT_mem (i := 146) (by decide +kernel) (by decide +kernel)
theorem fl_X5_28 : Cond.fieldLink RX5 28 "Dotpress" "embosser" "LDotpress$Embosser;" ∈ gT := gT_mem (i := 147) (by decide +kernel) (by decide +kernel)
theorem fl_X5_34 : Cond.fieldLink RX5 34 "Dotpress" "texts" "[LDotpress$Text;" ∈ gT := gT_mem (i := 148) (by decide +kernel) (by decide +kernel)
theorem fl_X5_43 : Cond.fieldLink RX5 43 "Dotpress" "freshCells" "LDotpress$Pieces;" ∈ gT := gT_mem (i := 149) (by decide +kernel) (by decide +kernel)
theorem fl_X5_47 : Cond.fieldLink RX5 47 "Dotpress" "textCount" "I" ∈ gT := gT_mem (i := 150) (by decide +kernel) (by decide +kernel)
theorem fl_X5_51 : Cond.fieldLink RX5 51 "Dotpress" "width" "I" ∈ gT := gT_mem (i := 151) (by decide +kernel) (by decide +kernel)
theorem ml_L_110 : Cond.methodLink RL 110 yX5_clear ∈ gT := gT_mem (i := 167) (by decide +kernel) (by decide +kernel)
theorem im_yX5_clear : Cond.instanceMethod yX5_clear ∈ gT := gT_mem (i := 168) (by decide +kernel) (by decide +kernel)
theorem se_yX5_clear : Cond.selects RX5 yX5_clear yX5_clear ∈ gT := gT_mem (i := 169) (by decide +kernel) (by decide +kernel)
theorem cd_yX5_clear : Cond.code yX5_clear cX5_clear 2 (some FieldType.int) ∈ gT := gT_mem (i := 170) (by decide +kernel) (by decide +kernel)
theorem ml_X5_73 : Cond.methodLink RX5 73 yX2_count ∈ gT := gT_mem (i := 171) (by decide +kernel) (by decide +kernel)
theorem im_yX2_count : Cond.instanceMethod yX2_count ∈ gT := gT_mem (i := 172) (by decide +kernel) (by decide +kernel)
theorem se_yX2_count : Cond.selects RX2 yX2_count yX2_count ∈ gT := gT_mem (i := 173) (by decide +kernel) (by decide +kernel)
theorem cd_yX2_count : Cond.code yX2_count cX2_count 1 (some FieldType.int) ∈ gT := gT_mem (i := 174) (by decide +kernel) (by decide +kernel)
theorem ml_X5_77 : Cond.methodLink RX5 77 yX2_empty ∈ gT := gT_mem (i := 175) (by decide +kernel) (by decide +kernel)
theorem im_yX2_empty : Cond.instanceMethod yX2_empty ∈ gT := gT_mem (i := 176) (by decide +kernel) (by decide +kernel)
theorem se_yX2_empty : Cond.selects RX2 yX2_empty yX2_empty ∈ gT := gT_mem (i := 177) (by decide +kernel) (by decide +kernel)
theorem cd_yX2_empty : Cond.code yX2_empty cX2_empty 1 none ∈ gT := gT_mem (i := 178) (by decide +kernel) (by decide +kernel)
theorem ml_L_179 : Cond.methodLink RL 179 yX5_checksum ∈ gT := gT_mem (i := 179) (by decide +kernel) (by decide +kernel)
theorem im_yX5_checksum : Cond.instanceMethod yX5_checksum ∈ gT := gT_mem (i := 180) (by decide +kernel) (by decide +kernel)
theorem se_yX5_checksum : Cond.selects RX5 yX5_checksum yX5_checksum ∈ gT := gT_mem (i := 181) (by decide +kernel) (by decide +kernel)
theorem cd_yX5_checksum : Cond.code yX5_checksum cX5_checksum 7 (some FieldType.long) ∈ gT := gT_mem (i := 182) (by decide +kernel) (by decide +kernel)
theorem ml_X5_263 : Cond.methodLink RX5 263 yX4_sumOnto ∈ gT := gT_mem (i := 183) (by decide +kernel) (by decide +kernel)
theorem im_yX4_sumOnto : Cond.instanceMethod yX4_sumOnto ∈ gT := gT_mem (i := 184) (by decide +kernel) (by decide +kernel)
theorem se_yX4_sumOnto : Cond.selects RX4 yX4_sumOnto yX4_sumOnto ∈ gT := gT_mem (i := 185) (by decide +kernel) (by decide +kernel)
theorem cd_yX4_sumOnto : Cond.code yX4_sumOnto cX4_sumOnto 7 (some FieldType.long) ∈ gT := gT_mem (i := 186) (by decide +kernel) (by decide +kernel)
theorem ml_X4_65 : Cond.methodLink RX4 65 yX1_uncut ∈ gT := gT_mem (i := 187) (by decide +kernel) (by decide +kernel)
theorem im_yX1_uncut : Cond.instanceMethod yX1_uncut ∈ gT := gT_mem (i := 188) (by decide +kernel) (by decide +kernel)
theorem se_yX1_uncut : Cond.selects RX1 yX1_uncut yX1_uncut ∈ gT := gT_mem (i := 189) (by decide +kernel) (by decide +kernel)
theorem cd_yX1_uncut : Cond.code yX1_uncut cX1_uncut 1 (some (FieldType.object "Dotpress$Row")) ∈ gT := gT_mem (i := 190) (by decide +kernel) (by decide +kernel)
theorem ml_X4_48 : Cond.methodLink RX4 48 yX2_count ∈ gT := gT_mem (i := 191) (by decide +kernel) (by decide +kernel)
theorem kl_X4_124 : Cond.constantLong RX4 124 31 ∈ gT := gT_mem (i := 192) (by decide +kernel) (by decide +kernel)
theorem ml_X4_52 : Cond.methodLink RX4 52 yX2_get ∈ gT := gT_mem (i := 193) (by decide +kernel) (by decide +kernel)
theorem im_yX2_get : Cond.instanceMethod yX2_get ∈ gT := gT_mem (i := 194) (by decide +kernel) (by decide +kernel)
theorem se_yX2_get : Cond.selects RX2 yX2_get yX2_get ∈ gT := gT_mem (i := 195) (by decide +kernel) (by decide +kernel)
theorem cd_yX2_get : Cond.code yX2_get cX2_get 2 (some FieldType.int) ∈ gT := gT_mem (i := 196) (by decide +kernel) (by decide +kernel)
theorem ml_L_188 : Cond.methodLink RL 188 yX5_meanStrikes ∈ gT := gT_mem (i := 197) (by decide +kernel) (by decide +kernel)
theorem im_yX5_meanStrikes : Cond.instanceMethod yX5_meanStrikes ∈ gT := gT_mem (i := 198) (by decide +kernel) (by decide +kernel)
theorem se_yX5_meanStrikes : Cond.selects RX5 yX5_meanStrikes yX5_meanStrikes ∈ gT := gT_mem (i := 199) (by decide +kernel) (by decide +kernel)
theorem cd_yX5_meanStrikes : Cond.code yX5_meanStrikes cX5_meanStrikes 1 (some FieldType.double) ∈ gT := gT_mem (i := 200) (by decide +kernel) (by decide +kernel)
theorem ml_X5_275 : Cond.methodLink RX5 275 yX0_wearOfAll ∈ gT := gT_mem (i := 201) (by decide +kernel) (by decide +kernel)
theorem im_yX0_wearOfAll : Cond.instanceMethod yX0_wearOfAll ∈ gT := gT_mem (i := 202) (by decide +kernel) (by decide +kernel)
theorem se_yX0_wearOfAll : Cond.selects RX0 yX0_wearOfAll yX0_wearOfAll ∈ gT := gT_mem (i := 203) (by decide +kernel) (by decide +kernel)
theorem cd_yX0_wearOfAll : Cond.code yX0_wearOfAll cX0_wearOfAll 3 (some FieldType.int) ∈ gT := gT_mem (i := 204) (by decide +kernel) (by decide +kernel)
theorem ml_X0_30 : Cond.methodLink RX0 30 yX2_get ∈ gT := gT_mem (i := 205) (by decide +kernel) (by decide +kernel)
theorem kd_X5_278 : Cond.constantDouble RX5 278 4618441417868443648 ∈ gT := gT_mem (i := 206) (by decide +kernel) (by decide +kernel)
theorem ml_L_193 : Cond.methodLink RL 193 yX5_isSound ∈ gT := gT_mem (i := 207) (by decide +kernel) (by decide +kernel)
theorem im_yX5_isSound : Cond.instanceMethod yX5_isSound ∈ gT := gT_mem (i := 208) (by decide +kernel) (by decide +kernel)
theorem se_yX5_isSound : Cond.selects RX5 yX5_isSound yX5_isSound ∈ gT := gT_mem (i := 209) (by decide +kernel) (by decide +kernel)
theorem cd_yX5_isSound : Cond.code yX5_isSound cX5_isSound 5 (some FieldType.boolean) ∈ gT := gT_mem (i := 210) (by decide +kernel) (by decide +kernel)
theorem ml_X5_280 : Cond.methodLink RX5 280 yX4_isWellLaid ∈ gT := gT_mem (i := 211) (by decide +kernel) (by decide +kernel)
theorem im_yX4_isWellLaid : Cond.instanceMethod yX4_isWellLaid ∈ gT := gT_mem (i := 212) (by decide +kernel) (by decide +kernel)
theorem se_yX4_isWellLaid : Cond.selects RX4 yX4_isWellLaid yX4_isWellLaid ∈ gT := gT_mem (i := 213) (by decide +kernel) (by decide +kernel)
theorem cd_yX4_isWellLaid : Cond.code yX4_isWellLaid cX4_isWellLaid 5 (some FieldType.boolean) ∈ gT := gT_mem (i := 214) (by decide +kernel) (by decide +kernel)
theorem ml_X4_63 : Cond.methodLink RX4 63 yX1_count ∈ gT := gT_mem (i := 215) (by decide +kernel) (by decide +kernel)
theorem im_yX1_count : Cond.instanceMethod yX1_count ∈ gT := gT_mem (i := 216) (by decide +kernel) (by decide +kernel)
theorem se_yX1_count : Cond.selects RX1 yX1_count yX1_count ∈ gT := gT_mem (i := 217) (by decide +kernel) (by decide +kernel)
theorem cd_yX1_count : Cond.code yX1_count cX1_count 1 (some FieldType.int) ∈ gT := gT_mem (i := 218) (by decide +kernel) (by decide +kernel)
theorem ml_X1_21 : Cond.methodLink RX1 21 yX2_count ∈ gT := gT_mem (i := 219) (by decide +kernel) (by decide +kernel)
theorem ml_X4_92 : Cond.methodLink RX4 92 yX1_sizeOf ∈ gT := gT_mem (i := 220) (by decide +kernel) (by decide +kernel)
theorem im_yX1_sizeOf : Cond.instanceMethod yX1_sizeOf ∈ gT := gT_mem (i := 221) (by decide +kernel) (by decide +kernel)
theorem se_yX1_sizeOf : Cond.selects RX1 yX1_sizeOf yX1_sizeOf ∈ gT := gT_mem (i := 222) (by decide +kernel) (by decide +kernel)
theorem cd_yX1_sizeOf : Cond.code yX1_sizeOf cX1_sizeOf 2 (some FieldType.int) ∈ gT := gT_mem (i := 223) (by decide +kernel) (by decide +kernel)
theorem ml_X1_29 : Cond.methodLink RX1 29 yX1_endOf ∈ gT := gT_mem (i := 224) (by decide +kernel) (by decide +kernel)
theorem im_yX1_endOf : Cond.instanceMethod yX1_endOf ∈ gT := gT_mem (i := 225) (by decide +kernel) (by decide +kernel)
theorem se_yX1_endOf : Cond.selects RX1 yX1_endOf yX1_endOf ∈ gT := gT_mem (i := 226) (by decide +kernel) (by decide +kernel)
theorem cd_yX1_endOf : Cond.code yX1_endOf cX1_endOf 2 (some FieldType.int) ∈ gT := gT_mem (i := 227) (by decide +kernel) (by decide +kernel)
theorem ml_X1_25 : Cond.methodLink RX1 25 yX2_get ∈ gT := gT_mem (i := 228) (by decide +kernel) (by decide +kernel)
theorem ml_X1_32 : Cond.methodLink RX1 32 yX1_startOf ∈ gT := gT_mem (i := 229) (by decide +kernel) (by decide +kernel)
theorem im_yX1_startOf : Cond.instanceMethod yX1_startOf ∈ gT := gT_mem (i := 230) (by decide +kernel) (by decide +kernel)
theorem se_yX1_startOf : Cond.selects RX1 yX1_startOf yX1_startOf ∈ gT := gT_mem (i := 231) (by decide +kernel) (by decide +kernel)
theorem cd_yX1_startOf : Cond.code yX1_startOf cX1_startOf 2 (some FieldType.int) ∈ gT := gT_mem (i := 232) (by decide +kernel) (by decide +kernel)
theorem ml_X5_283 : Cond.methodLink RX5 283 yX3_isInOrder ∈ gT := gT_mem (i := 233) (by decide +kernel) (by decide +kernel)
theorem im_yX3_isInOrder : Cond.instanceMethod yX3_isInOrder ∈ gT := gT_mem (i := 234) (by decide +kernel) (by decide +kernel)
theorem se_yX3_isInOrder : Cond.selects RX3 yX3_isInOrder yX3_isInOrder ∈ gT := gT_mem (i := 235) (by decide +kernel) (by decide +kernel)
theorem cd_yX3_isInOrder : Cond.code yX3_isInOrder cX3_isInOrder 2 (some FieldType.boolean) ∈ gT := gT_mem (i := 236) (by decide +kernel) (by decide +kernel)
theorem ml_X3_42 : Cond.methodLink RX3 42 yX2_count ∈ gT := gT_mem (i := 237) (by decide +kernel) (by decide +kernel)
theorem ml_X3_38 : Cond.methodLink RX3 38 yX2_get ∈ gT := gT_mem (i := 238) (by decide +kernel) (by decide +kernel)
theorem ml_L_100 : Cond.methodLink RL 100 yL_type ∈ gT := gT_mem (i := 239) (by decide +kernel) (by decide +kernel)
theorem st_yL_type : Cond.static yL_type ∈ gT := gT_mem (i := 240) (by decide +kernel) (by decide +kernel)
theorem cw_yL_type : Cond.codeWith yL_type cL_type 4 (some FieldType.int) [(0, 9, 12, 13), (0, 9, 15, 15)] ∈ gT := gT_mem (i := 241) (by decide +kernel) (by decide +kernel)
theorem cl_L_13 : Cond.classLink RL 13 "java/lang/IllegalArgumentException" ∈ gT := gT_mem (i := 242) (by decide +kernel) (by decide +kernel)
theorem cl_L_15 : Cond.classLink RL 15 "java/lang/IllegalStateException" ∈ gT := gT_mem (i := 243) (by decide +kernel) (by decide +kernel)
theorem ml_L_7 : Cond.methodLink RL 7 yX5_type ∈ gT := gT_mem (i := 244) (by decide +kernel) (by decide +kernel)
theorem im_yX5_type : Cond.instanceMethod yX5_type ∈ gT := gT_mem (i := 245) (by decide +kernel) (by decide +kernel)
theorem se_yX5_type : Cond.selects RX5 yX5_type yX5_type ∈ gT := gT_mem (i := 246) (by decide +kernel) (by decide +kernel)
theorem cd_yX5_type : Cond.code yX5_type cX5_type 2 (some FieldType.int) ∈ gT := gT_mem (i := 247) (by decide +kernel) (by decide +kernel)
theorem cl_X5_54 : Cond.classLink RX5 54 "java/lang/IllegalArgumentException" ∈ gT := gT_mem (i := 248) (by decide +kernel) (by decide +kernel)
theorem ml_X5_58 : Cond.methodLink RX5 58 ⟨"java/lang/IllegalArgumentException", "<init>", "(Ljava/lang/String;)V"⟩ ∈ gT := gT_mem (i := 294) (by decide +kernel) (by decide +kernel)
theorem ac_byte : Cond.arrayClass .byte ∈ gT := gT_mem (i := 319) (by decide +kernel) (by decide +kernel)
theorem ml_X5_61 : Cond.methodLink RX5 61 yX2_isFull ∈ gT := gT_mem (i := 320) (by decide +kernel) (by decide +kernel)
theorem im_yX2_isFull : Cond.instanceMethod yX2_isFull ∈ gT := gT_mem (i := 321) (by decide +kernel) (by decide +kernel)
theorem se_yX2_isFull : Cond.selects RX2 yX2_isFull yX2_isFull ∈ gT := gT_mem (i := 322) (by decide +kernel) (by decide +kernel)
theorem cd_yX2_isFull : Cond.code yX2_isFull cX2_isFull 1 (some FieldType.boolean) ∈ gT := gT_mem (i := 323) (by decide +kernel) (by decide +kernel)
theorem cl_X5_65 : Cond.classLink RX5 65 "java/lang/IllegalStateException" ∈ gT := gT_mem (i := 324) (by decide +kernel) (by decide +kernel)
theorem ml_X5_69 : Cond.methodLink RX5 69 ⟨"java/lang/IllegalStateException", "<init>", "(Ljava/lang/String;)V"⟩ ∈ gT := gT_mem (i := 334) (by decide +kernel) (by decide +kernel)
theorem ml_X5_70 : Cond.methodLink RX5 70 yX2_add ∈ gT := gT_mem (i := 340) (by decide +kernel) (by decide +kernel)
theorem ml_L_114 : Cond.methodLink RL 114 yL_addRule ∈ gT := gT_mem (i := 341) (by decide +kernel) (by decide +kernel)
theorem st_yL_addRule : Cond.static yL_addRule ∈ gT := gT_mem (i := 342) (by decide +kernel) (by decide +kernel)
theorem cw_yL_addRule : Cond.codeWith yL_addRule cL_addRule 6 (some FieldType.int) [(0, 12, 15, 13), (0, 12, 19, 15), (0, 12, 23, 21)] ∈ gT := gT_mem (i := 343) (by decide +kernel) (by decide +kernel)
theorem cl_L_21 : Cond.classLink RL 21 "java/lang/UnsupportedOperationException" ∈ gT := gT_mem (i := 344) (by decide +kernel) (by decide +kernel)
theorem ml_L_17 : Cond.methodLink RL 17 yX5_addRule ∈ gT := gT_mem (i := 345) (by decide +kernel) (by decide +kernel)
theorem im_yX5_addRule : Cond.instanceMethod yX5_addRule ∈ gT := gT_mem (i := 346) (by decide +kernel) (by decide +kernel)
theorem se_yX5_addRule : Cond.selects RX5 yX5_addRule yX5_addRule ∈ gT := gT_mem (i := 347) (by decide +kernel) (by decide +kernel)
theorem cd_yX5_addRule : Cond.code yX5_addRule cX5_addRule 6 (some FieldType.int) ∈ gT := gT_mem (i := 348) (by decide +kernel) (by decide +kernel)
theorem ml_X5_80 : Cond.methodLink RX5 80 yX5_typedKey ∈ gT := gT_mem (i := 349) (by decide +kernel) (by decide +kernel)
theorem im_yX5_typedKey : Cond.instanceMethod yX5_typedKey ∈ gT := gT_mem (i := 351) (by decide +kernel) (by decide +kernel)
theorem cd_yX5_typedKey : Cond.code yX5_typedKey cX5_typedKey 1 (some FieldType.int) ∈ gT := gT_mem (i := 352) (by decide +kernel) (by decide +kernel)
theorem ml_X5_138 : Cond.methodLink RX5 138 yX2_placeOf ∈ gT := gT_mem (i := 353) (by decide +kernel) (by decide +kernel)
theorem im_yX2_placeOf : Cond.instanceMethod yX2_placeOf ∈ gT := gT_mem (i := 354) (by decide +kernel) (by decide +kernel)
theorem se_yX2_placeOf : Cond.selects RX2 yX2_placeOf yX2_placeOf ∈ gT := gT_mem (i := 355) (by decide +kernel) (by decide +kernel)
theorem cd_yX2_placeOf : Cond.code yX2_placeOf cX2_placeOf 3 (some FieldType.int) ∈ gT := gT_mem (i := 356) (by decide +kernel) (by decide +kernel)
theorem ml_X2_25 : Cond.methodLink RX2 25 yX2_get ∈ gT := gT_mem (i := 357) (by decide +kernel) (by decide +kernel)
theorem ml_X5_286 : Cond.methodLink RX5 286 yX3_keyOf ∈ gT := gT_mem (i := 358) (by decide +kernel) (by decide +kernel)
theorem st_yX3_keyOf : Cond.static yX3_keyOf ∈ gT := gT_mem (i := 359) (by decide +kernel) (by decide +kernel)
theorem cd_yX3_keyOf : Cond.code yX3_keyOf cX3_keyOf 6 (some FieldType.int) ∈ gT := gT_mem (i := 360) (by decide +kernel) (by decide +kernel)
theorem ml_X5_83 : Cond.methodLink RX5 83 yX5_isRule ∈ gT := gT_mem (i := 361) (by decide +kernel) (by decide +kernel)
theorem st_yX5_isRule : Cond.static yX5_isRule ∈ gT := gT_mem (i := 362) (by decide +kernel) (by decide +kernel)
theorem cd_yX5_isRule : Cond.code yX5_isRule cX5_isRule 3 (some FieldType.boolean) ∈ gT := gT_mem (i := 363) (by decide +kernel) (by decide +kernel)
theorem ml_X5_159 : Cond.methodLink RX5 159 yX5_isGrade ∈ gT := gT_mem (i := 364) (by decide +kernel) (by decide +kernel)
theorem st_yX5_isGrade : Cond.static yX5_isGrade ∈ gT := gT_mem (i := 365) (by decide +kernel) (by decide +kernel)
theorem cd_yX5_isGrade : Cond.code yX5_isGrade cX5_isGrade 1 (some FieldType.boolean) ∈ gT := gT_mem (i := 366) (by decide +kernel) (by decide +kernel)
theorem ml_X5_89 : Cond.methodLink RX5 89 yX3_isFull ∈ gT := gT_mem (i := 368) (by decide +kernel) (by decide +kernel)
theorem im_yX3_isFull : Cond.instanceMethod yX3_isFull ∈ gT := gT_mem (i := 369) (by decide +kernel) (by decide +kernel)
theorem se_yX3_isFull : Cond.selects RX3 yX3_isFull yX3_isFull ∈ gT := gT_mem (i := 370) (by decide +kernel) (by decide +kernel)
theorem cd_yX3_isFull : Cond.code yX3_isFull cX3_isFull 1 (some FieldType.boolean) ∈ gT := gT_mem (i := 371) (by decide +kernel) (by decide +kernel)
theorem ml_X3_46 : Cond.methodLink RX3 46 yX2_isFull ∈ gT := gT_mem (i := 372) (by decide +kernel) (by decide +kernel)
theorem ml_X5_92 : Cond.methodLink RX5 92 yX3_placeOf ∈ gT := gT_mem (i := 374) (by decide +kernel) (by decide +kernel)
theorem im_yX3_placeOf : Cond.instanceMethod yX3_placeOf ∈ gT := gT_mem (i := 375) (by decide +kernel) (by decide +kernel)
theorem se_yX3_placeOf : Cond.selects RX3 yX3_placeOf yX3_placeOf ∈ gT := gT_mem (i := 376) (by decide +kernel) (by decide +kernel)
theorem cd_yX3_placeOf : Cond.code yX3_placeOf cX3_placeOf 2 (some FieldType.int) ∈ gT := gT_mem (i := 377) (by decide +kernel) (by decide +kernel)
theorem ml_X3_50 : Cond.methodLink RX3 50 yX2_placeOf ∈ gT := gT_mem (i := 378) (by decide +kernel) (by decide +kernel)
theorem cl_X5_96 : Cond.classLink RX5 96 "java/lang/UnsupportedOperationException" ∈ gT := gT_mem (i := 379) (by decide +kernel) (by decide +kernel)
theorem ml_X5_100 : Cond.methodLink RX5 100 ⟨"java/lang/UnsupportedOperationException", "<init>", "(Ljava/lang/String;)V"⟩ ∈ gT := gT_mem (i := 389) (by decide +kernel) (by decide +kernel)
theorem ml_X5_101 : Cond.methodLink RX5 101 yX3_insert ∈ gT := gT_mem (i := 395) (by decide +kernel) (by decide +kernel)
theorem im_yX3_insert : Cond.instanceMethod yX3_insert ∈ gT := gT_mem (i := 396) (by decide +kernel) (by decide +kernel)
theorem se_yX3_insert : Cond.selects RX3 yX3_insert yX3_insert ∈ gT := gT_mem (i := 397) (by decide +kernel) (by decide +kernel)
theorem cd_yX3_insert : Cond.code yX3_insert cX3_insert 7 (some FieldType.int) ∈ gT := gT_mem (i := 398) (by decide +kernel) (by decide +kernel)
theorem ml_X3_53 : Cond.methodLink RX3 53 yX2_insert ∈ gT := gT_mem (i := 399) (by decide +kernel) (by decide +kernel)
theorem im_yX2_insert : Cond.instanceMethod yX2_insert ∈ gT := gT_mem (i := 400) (by decide +kernel) (by decide +kernel)
theorem se_yX2_insert : Cond.selects RX2 yX2_insert yX2_insert ∈ gT := gT_mem (i := 401) (by decide +kernel) (by decide +kernel)
theorem cd_yX2_insert : Cond.code yX2_insert cX2_insert 3 none ∈ gT := gT_mem (i := 402) (by decide +kernel) (by decide +kernel)
theorem ml_X2_19 : Cond.methodLink RX2 19 ⟨"java/lang/System", "arraycopy", "(Ljava/lang/Object;ILjava/lang/Object;II)V"⟩ ∈ gT := gT_mem (i := 403) (by decide +kernel) (by decide +kernel)
theorem nat_copy : Cond.native ⟨"java/lang/System", "arraycopy", "(Ljava/lang/Object;ILjava/lang/Object;II)V"⟩ ∈ gT := gT_mem (i := 405) (by decide +kernel) (by decide +kernel)
theorem ml_X5_105 : Cond.methodLink RX5 105 yX5_translateTexts ∈ gT := gT_mem (i := 406) (by decide +kernel) (by decide +kernel)
theorem im_yX5_translateTexts : Cond.instanceMethod yX5_translateTexts ∈ gT := gT_mem (i := 408) (by decide +kernel) (by decide +kernel)
theorem cd_yX5_translateTexts : Cond.code yX5_translateTexts cX5_translateTexts 6 (some FieldType.int) ∈ gT := gT_mem (i := 409) (by decide +kernel) (by decide +kernel)
theorem ml_X5_169 : Cond.methodLink RX5 169 yX4_translate ∈ gT := gT_mem (i := 410) (by decide +kernel) (by decide +kernel)
theorem im_yX4_translate : Cond.instanceMethod yX4_translate ∈ gT := gT_mem (i := 411) (by decide +kernel) (by decide +kernel)
theorem se_yX4_translate : Cond.selects RX4 yX4_translate yX4_translate ∈ gT := gT_mem (i := 412) (by decide +kernel) (by decide +kernel)
theorem cd_yX4_translate : Cond.code yX4_translate cX4_translate 5 (some FieldType.boolean) ∈ gT := gT_mem (i := 413) (by decide +kernel) (by decide +kernel)
theorem ml_X4_45 : Cond.methodLink RX4 45 yX1_empty ∈ gT := gT_mem (i := 414) (by decide +kernel) (by decide +kernel)
theorem im_yX1_empty : Cond.instanceMethod yX1_empty ∈ gT := gT_mem (i := 415) (by decide +kernel) (by decide +kernel)
theorem se_yX1_empty : Cond.selects RX1 yX1_empty yX1_empty ∈ gT := gT_mem (i := 416) (by decide +kernel) (by decide +kernel)
theorem cd_yX1_empty : Cond.code yX1_empty cX1_empty 1 none ∈ gT := gT_mem (i := 417) (by decide +kernel) (by decide +kernel)
theorem ml_X1_42 : Cond.methodLink RX1 42 yX2_empty ∈ gT := gT_mem (i := 418) (by decide +kernel) (by decide +kernel)
theorem ml_X4_69 : Cond.methodLink RX4 69 yX1_startOf ∈ gT := gT_mem (i := 419) (by decide +kernel) (by decide +kernel)
theorem ml_X4_72 : Cond.methodLink RX4 72 yX1_endOf ∈ gT := gT_mem (i := 420) (by decide +kernel) (by decide +kernel)
theorem ml_X4_75 : Cond.methodLink RX4 75 yX3_translate ∈ gT := gT_mem (i := 421) (by decide +kernel) (by decide +kernel)
theorem im_yX3_translate : Cond.instanceMethod yX3_translate ∈ gT := gT_mem (i := 422) (by decide +kernel) (by decide +kernel)
theorem se_yX3_translate : Cond.selects RX3 yX3_translate yX3_translate ∈ gT := gT_mem (i := 423) (by decide +kernel) (by decide +kernel)
theorem cd_yX3_translate : Cond.code yX3_translate cX3_translate 11 none ∈ gT := gT_mem (i := 424) (by decide +kernel) (by decide +kernel)
theorem ml_X3_76 : Cond.methodLink RX3 76 yX3_placeOfException ∈ gT := gT_mem (i := 425) (by decide +kernel) (by decide +kernel)
theorem im_yX3_placeOfException : Cond.instanceMethod yX3_placeOfException ∈ gT := gT_mem (i := 426) (by decide +kernel) (by decide +kernel)
theorem se_yX3_placeOfException : Cond.selects RX3 yX3_placeOfException yX3_placeOfException ∈ gT := gT_mem (i := 427) (by decide +kernel) (by decide +kernel)
theorem cd_yX3_placeOfException : Cond.code yX3_placeOfException cX3_placeOfException 5 (some FieldType.int) ∈ gT := gT_mem (i := 428) (by decide +kernel) (by decide +kernel)
theorem ml_X3_62 : Cond.methodLink RX3 62 yX1_count ∈ gT := gT_mem (i := 429) (by decide +kernel) (by decide +kernel)
theorem ml_X3_63 : Cond.methodLink RX3 63 yX1_isSame ∈ gT := gT_mem (i := 430) (by decide +kernel) (by decide +kernel)
theorem im_yX1_isSame : Cond.instanceMethod yX1_isSame ∈ gT := gT_mem (i := 431) (by decide +kernel) (by decide +kernel)
theorem se_yX1_isSame : Cond.selects RX1 yX1_isSame yX1_isSame ∈ gT := gT_mem (i := 432) (by decide +kernel) (by decide +kernel)
theorem cd_yX1_isSame : Cond.code yX1_isSame cX1_isSame 7 (some FieldType.boolean) ∈ gT := gT_mem (i := 433) (by decide +kernel) (by decide +kernel)
theorem ml_X3_80 : Cond.methodLink RX3 80 yJ9_min_7cf53 ∈ gT := gT_mem (i := 434) (by decide +kernel) (by decide +kernel)
theorem st_yJ9_min_7cf53 : Cond.static yJ9_min_7cf53 ∈ gT := gT_mem (i := 435) (by decide +kernel) (by decide +kernel)
theorem cd_yJ9_min_7cf53 : Cond.code yJ9_min_7cf53 cJ9_min_7cf53 2 (some FieldType.int) ∈ gT := gT_mem (i := 436) (by decide +kernel) (by decide +kernel)
theorem ml_X3_86 : Cond.methodLink RX3 86 yX3_addCells ∈ gT := gT_mem (i := 437) (by decide +kernel) (by decide +kernel)
theorem im_yX3_addCells : Cond.instanceMethod yX3_addCells ∈ gT := gT_mem (i := 439) (by decide +kernel) (by decide +kernel)
theorem cd_yX3_addCells : Cond.code yX3_addCells cX3_addCells 8 (some FieldType.int) ∈ gT := gT_mem (i := 440) (by decide +kernel) (by decide +kernel)
theorem ml_X3_90 : Cond.methodLink RX3 90 yX3_keyOf ∈ gT := gT_mem (i := 441) (by decide +kernel) (by decide +kernel)
theorem ml_X3_67 : Cond.methodLink RX3 67 yX1_add ∈ gT := gT_mem (i := 442) (by decide +kernel) (by decide +kernel)
theorem im_yX1_add : Cond.instanceMethod yX1_add ∈ gT := gT_mem (i := 443) (by decide +kernel) (by decide +kernel)
theorem se_yX1_add : Cond.selects RX1 yX1_add yX1_add ∈ gT := gT_mem (i := 444) (by decide +kernel) (by decide +kernel)
theorem cd_yX1_add : Cond.code yX1_add cX1_add 2 none ∈ gT := gT_mem (i := 445) (by decide +kernel) (by decide +kernel)
theorem ml_X1_36 : Cond.methodLink RX1 36 yX2_add ∈ gT := gT_mem (i := 446) (by decide +kernel) (by decide +kernel)
theorem ml_X4_56 : Cond.methodLink RX4 56 yX1_cut ∈ gT := gT_mem (i := 447) (by decide +kernel) (by decide +kernel)
theorem im_yX1_cut : Cond.instanceMethod yX1_cut ∈ gT := gT_mem (i := 448) (by decide +kernel) (by decide +kernel)
theorem se_yX1_cut : Cond.selects RX1 yX1_cut yX1_cut ∈ gT := gT_mem (i := 449) (by decide +kernel) (by decide +kernel)
theorem cd_yX1_cut : Cond.code yX1_cut cX1_cut 1 none ∈ gT := gT_mem (i := 450) (by decide +kernel) (by decide +kernel)
theorem ml_X1_39 : Cond.methodLink RX1 39 yX1_uncutSize ∈ gT := gT_mem (i := 451) (by decide +kernel) (by decide +kernel)
theorem im_yX1_uncutSize : Cond.instanceMethod yX1_uncutSize ∈ gT := gT_mem (i := 452) (by decide +kernel) (by decide +kernel)
theorem se_yX1_uncutSize : Cond.selects RX1 yX1_uncutSize yX1_uncutSize ∈ gT := gT_mem (i := 453) (by decide +kernel) (by decide +kernel)
theorem cd_yX1_uncutSize : Cond.code yX1_uncutSize cX1_uncutSize 1 (some FieldType.int) ∈ gT := gT_mem (i := 454) (by decide +kernel) (by decide +kernel)
theorem ml_X1_35 : Cond.methodLink RX1 35 yX1_count ∈ gT := gT_mem (i := 455) (by decide +kernel) (by decide +kernel)
theorem ml_X4_81 : Cond.methodLink RX4 81 yX1_shares ∈ gT := gT_mem (i := 456) (by decide +kernel) (by decide +kernel)
theorem im_yX1_shares : Cond.instanceMethod yX1_shares ∈ gT := gT_mem (i := 457) (by decide +kernel) (by decide +kernel)
theorem se_yX1_shares : Cond.selects RX1 yX1_shares yX1_shares ∈ gT := gT_mem (i := 458) (by decide +kernel) (by decide +kernel)
theorem cd_yX1_shares : Cond.code yX1_shares cX1_shares 3 (some FieldType.boolean) ∈ gT := gT_mem (i := 459) (by decide +kernel) (by decide +kernel)
theorem ml_X1_55 : Cond.methodLink RX1 55 yX1_isSame ∈ gT := gT_mem (i := 460) (by decide +kernel) (by decide +kernel)
theorem ml_X4_85 : Cond.methodLink RX4 85 yX4_unmark ∈ gT := gT_mem (i := 461) (by decide +kernel) (by decide +kernel)
theorem im_yX4_unmark : Cond.instanceMethod yX4_unmark ∈ gT := gT_mem (i := 463) (by decide +kernel) (by decide +kernel)
theorem ins_X4 : Cond.instantiable RX4 7 ∈ gT := gT_mem (i := 464) (by decide +kernel) (by decide +kernel)
theorem cd_yX4_unmark : Cond.code yX4_unmark cX4_unmark 3 none ∈ gT := gT_mem (i := 465) (by decide +kernel) (by decide +kernel)
theorem ml_X4_116 : Cond.methodLink RX4 116 yX4_putMark ∈ gT := gT_mem (i := 466) (by decide +kernel) (by decide +kernel)
theorem im_yX4_putMark : Cond.instanceMethod yX4_putMark ∈ gT := gT_mem (i := 467) (by decide +kernel) (by decide +kernel)
theorem se_yX4_putMark : Cond.selects RX4 yX4_putMark yX4_putMark ∈ gT := gT_mem (i := 468) (by decide +kernel) (by decide +kernel)
theorem cd_yX4_putMark : Cond.code yX4_putMark cX4_putMark 4 none ∈ gT := gT_mem (i := 469) (by decide +kernel) (by decide +kernel)
theorem ml_X4_113 : Cond.methodLink RX4 113 yX2_set ∈ gT := gT_mem (i := 470) (by decide +kernel) (by decide +kernel)
theorem im_yX2_set : Cond.instanceMethod yX2_set ∈ gT := gT_mem (i := 471) (by decide +kernel) (by decide +kernel)
theorem se_yX2_set : Cond.selects RX2 yX2_set yX2_set ∈ gT := gT_mem (i := 472) (by decide +kernel) (by decide +kernel)
theorem cd_yX2_set : Cond.code yX2_set cX2_set 3 none ∈ gT := gT_mem (i := 473) (by decide +kernel) (by decide +kernel)
theorem ml_X4_88 : Cond.methodLink RX4 88 yX1_takeOver ∈ gT := gT_mem (i := 474) (by decide +kernel) (by decide +kernel)
theorem im_yX1_takeOver : Cond.instanceMethod yX1_takeOver ∈ gT := gT_mem (i := 475) (by decide +kernel) (by decide +kernel)
theorem se_yX1_takeOver : Cond.selects RX1 yX1_takeOver yX1_takeOver ∈ gT := gT_mem (i := 476) (by decide +kernel) (by decide +kernel)
theorem cd_yX1_takeOver : Cond.code yX1_takeOver cX1_takeOver 2 none ∈ gT := gT_mem (i := 477) (by decide +kernel) (by decide +kernel)
theorem ml_X1_59 : Cond.methodLink RX1 59 yX2_takeOver ∈ gT := gT_mem (i := 478) (by decide +kernel) (by decide +kernel)
theorem im_yX2_takeOver : Cond.instanceMethod yX2_takeOver ∈ gT := gT_mem (i := 479) (by decide +kernel) (by decide +kernel)
theorem se_yX2_takeOver : Cond.selects RX2 yX2_takeOver yX2_takeOver ∈ gT := gT_mem (i := 480) (by decide +kernel) (by decide +kernel)
theorem cd_yX2_takeOver : Cond.code yX2_takeOver cX2_takeOver 3 none ∈ gT := gT_mem (i := 481) (by decide +kernel) (by decide +kernel)
theorem ml_X2_29 : Cond.methodLink RX2 29 yX2_empty ∈ gT := gT_mem (i := 482) (by decide +kernel) (by decide +kernel)
theorem ml_X2_32 : Cond.methodLink RX2 32 yX2_count ∈ gT := gT_mem (i := 483) (by decide +kernel) (by decide +kernel)
theorem ml_X2_35 : Cond.methodLink RX2 35 yX2_add ∈ gT := gT_mem (i := 484) (by decide +kernel) (by decide +kernel)
theorem ml_X5_173 : Cond.methodLink RX5 173 yX4_lay ∈ gT := gT_mem (i := 485) (by decide +kernel) (by decide +kernel)
theorem im_yX4_lay : Cond.instanceMethod yX4_lay ∈ gT := gT_mem (i := 486) (by decide +kernel) (by decide +kernel)
theorem se_yX4_lay : Cond.selects RX4 yX4_lay yX4_lay ∈ gT := gT_mem (i := 487) (by decide +kernel) (by decide +kernel)
theorem cd_yX4_lay : Cond.code yX4_lay cX4_lay 4 none ∈ gT := gT_mem (i := 488) (by decide +kernel) (by decide +kernel)
theorem ml_X4_62 : Cond.methodLink RX4 62 yX2_empty ∈ gT := gT_mem (i := 489) (by decide +kernel) (by decide +kernel)
theorem ml_X4_95 : Cond.methodLink RX4 95 yX4_beginWord ∈ gT := gT_mem (i := 490) (by decide +kernel) (by decide +kernel)
theorem im_yX4_beginWord : Cond.instanceMethod yX4_beginWord ∈ gT := gT_mem (i := 492) (by decide +kernel) (by decide +kernel)
theorem cd_yX4_beginWord : Cond.code yX4_beginWord cX4_beginWord 4 none ∈ gT := gT_mem (i := 493) (by decide +kernel) (by decide +kernel)
theorem ml_X4_98 : Cond.methodLink RX4 98 yX1_uncutSize ∈ gT := gT_mem (i := 494) (by decide +kernel) (by decide +kernel)
theorem ml_X4_59 : Cond.methodLink RX4 59 yX1_add ∈ gT := gT_mem (i := 495) (by decide +kernel) (by decide +kernel)
theorem ml_X4_64 : Cond.methodLink RX4 64 yX2_add ∈ gT := gT_mem (i := 496) (by decide +kernel) (by decide +kernel)
theorem ml_X4_101 : Cond.methodLink RX4 101 yX1_get ∈ gT := gT_mem (i := 497) (by decide +kernel) (by decide +kernel)
theorem im_yX1_get : Cond.instanceMethod yX1_get ∈ gT := gT_mem (i := 498) (by decide +kernel) (by decide +kernel)
theorem se_yX1_get : Cond.selects RX1 yX1_get yX1_get ∈ gT := gT_mem (i := 499) (by decide +kernel) (by decide +kernel)
theorem cd_yX1_get : Cond.code yX1_get cX1_get 3 (some FieldType.int) ∈ gT := gT_mem (i := 500) (by decide +kernel) (by decide +kernel)
theorem ml_L_118 : Cond.methodLink RL 118 yL_mend ∈ gT := gT_mem (i := 501) (by decide +kernel) (by decide +kernel)
theorem st_yL_mend : Cond.static yL_mend ∈ gT := gT_mem (i := 502) (by decide +kernel) (by decide +kernel)
theorem cw_yL_mend : Cond.codeWith yL_mend cL_mend 6 (some FieldType.int) [(0, 12, 15, 13), (0, 12, 19, 26)] ∈ gT := gT_mem (i := 503) (by decide +kernel) (by decide +kernel)
theorem cl_L_26 : Cond.classLink RL 26 "java/util/NoSuchElementException" ∈ gT := gT_mem (i := 504) (by decide +kernel) (by decide +kernel)
theorem ml_L_23 : Cond.methodLink RL 23 yX5_mend ∈ gT := gT_mem (i := 505) (by decide +kernel) (by decide +kernel)
theorem im_yX5_mend : Cond.instanceMethod yX5_mend ∈ gT := gT_mem (i := 506) (by decide +kernel) (by decide +kernel)
theorem se_yX5_mend : Cond.selects RX5 yX5_mend yX5_mend ∈ gT := gT_mem (i := 507) (by decide +kernel) (by decide +kernel)
theorem cd_yX5_mend : Cond.code yX5_mend cX5_mend 5 (some FieldType.int) ∈ gT := gT_mem (i := 508) (by decide +kernel) (by decide +kernel)
theorem cl_X5_110 : Cond.classLink RX5 110 "java/util/NoSuchElementException" ∈ gT := gT_mem (i := 510) (by decide +kernel) (by decide +kernel)
theorem ml_X5_114 : Cond.methodLink RX5 114 ⟨"java/util/NoSuchElementException", "<init>", "(Ljava/lang/String;)V"⟩ ∈ gT := gT_mem (i := 520) (by decide +kernel) (by decide +kernel)
theorem ml_X5_115 : Cond.methodLink RX5 115 yX3_alter ∈ gT := gT_mem (i := 526) (by decide +kernel) (by decide +kernel)
theorem im_yX3_alter : Cond.instanceMethod yX3_alter ∈ gT := gT_mem (i := 527) (by decide +kernel) (by decide +kernel)
theorem se_yX3_alter : Cond.selects RX3 yX3_alter yX3_alter ∈ gT := gT_mem (i := 528) (by decide +kernel) (by decide +kernel)
theorem cd_yX3_alter : Cond.code yX3_alter cX3_alter 5 none ∈ gT := gT_mem (i := 529) (by decide +kernel) (by decide +kernel)
theorem ml_X3_56 : Cond.methodLink RX3 56 yX2_set ∈ gT := gT_mem (i := 530) (by decide +kernel) (by decide +kernel)
theorem ml_L_121 : Cond.methodLink RL 121 yL_removeRule ∈ gT := gT_mem (i := 531) (by decide +kernel) (by decide +kernel)
theorem st_yL_removeRule : Cond.static yL_removeRule ∈ gT := gT_mem (i := 532) (by decide +kernel) (by decide +kernel)
theorem cw_yL_removeRule : Cond.codeWith yL_removeRule cL_removeRule 4 (some FieldType.int) [(0, 9, 12, 32)] ∈ gT := gT_mem (i := 533) (by decide +kernel) (by decide +kernel)
theorem cl_L_32 : Cond.classLink RL 32 "java/lang/IndexOutOfBoundsException" ∈ gT := gT_mem (i := 534) (by decide +kernel) (by decide +kernel)
theorem ins_Jx00060 : Cond.instantiable RJx00060 6 ∈ gT := gT_mem (i := 535) (by decide +kernel) (by decide +kernel)
theorem im_yJx00060_init_a7421 : Cond.instanceMethod yJx00060_init_a7421 ∈ gT := gT_mem (i := 536) (by decide +kernel) (by decide +kernel)
theorem cd_yJx00060_init_a7421 : Cond.code yJx00060_init_a7421 cJx00060_init_a7421 2 none ∈ gT := gT_mem (i := 537) (by decide +kernel) (by decide +kernel)
theorem ml_Jx00060_7 : Cond.methodLink RJx00060 7 ⟨"java/lang/IndexOutOfBoundsException", "<init>", "(Ljava/lang/String;)V"⟩ ∈ gT := gT_mem (i := 538) (by decide +kernel) (by decide +kernel)
theorem ins_J0 : Cond.instantiable RJ0 4 ∈ gT := gT_mem (i := 553) (by decide +kernel) (by decide +kernel)
theorem ml_L_28 : Cond.methodLink RL 28 yX5_removeRule ∈ gT := gT_mem (i := 558) (by decide +kernel) (by decide +kernel)
theorem im_yX5_removeRule : Cond.instanceMethod yX5_removeRule ∈ gT := gT_mem (i := 559) (by decide +kernel) (by decide +kernel)
theorem se_yX5_removeRule : Cond.selects RX5 yX5_removeRule yX5_removeRule ∈ gT := gT_mem (i := 560) (by decide +kernel) (by decide +kernel)
theorem cd_yX5_removeRule : Cond.code yX5_removeRule cX5_removeRule 2 (some FieldType.int) ∈ gT := gT_mem (i := 561) (by decide +kernel) (by decide +kernel)
theorem ml_X5_119 : Cond.methodLink RX5 119 yX3_hasPlace ∈ gT := gT_mem (i := 562) (by decide +kernel) (by decide +kernel)
theorem im_yX3_hasPlace : Cond.instanceMethod yX3_hasPlace ∈ gT := gT_mem (i := 563) (by decide +kernel) (by decide +kernel)
theorem se_yX3_hasPlace : Cond.selects RX3 yX3_hasPlace yX3_hasPlace ∈ gT := gT_mem (i := 564) (by decide +kernel) (by decide +kernel)
theorem cd_yX3_hasPlace : Cond.code yX3_hasPlace cX3_hasPlace 2 (some FieldType.boolean) ∈ gT := gT_mem (i := 565) (by decide +kernel) (by decide +kernel)
theorem cl_X5_123 : Cond.classLink RX5 123 "java/lang/IndexOutOfBoundsException" ∈ gT := gT_mem (i := 566) (by decide +kernel) (by decide +kernel)
theorem ml_X5_127 : Cond.methodLink RX5 127 ⟨"java/lang/IndexOutOfBoundsException", "<init>", "(Ljava/lang/String;)V"⟩ ∈ gT := gT_mem (i := 576) (by decide +kernel) (by decide +kernel)
theorem ml_X5_128 : Cond.methodLink RX5 128 yX3_takeAway ∈ gT := gT_mem (i := 579) (by decide +kernel) (by decide +kernel)
theorem im_yX3_takeAway : Cond.instanceMethod yX3_takeAway ∈ gT := gT_mem (i := 580) (by decide +kernel) (by decide +kernel)
theorem se_yX3_takeAway : Cond.selects RX3 yX3_takeAway yX3_takeAway ∈ gT := gT_mem (i := 581) (by decide +kernel) (by decide +kernel)
theorem cd_yX3_takeAway : Cond.code yX3_takeAway cX3_takeAway 2 none ∈ gT := gT_mem (i := 582) (by decide +kernel) (by decide +kernel)
theorem ml_X3_59 : Cond.methodLink RX3 59 yX2_remove ∈ gT := gT_mem (i := 583) (by decide +kernel) (by decide +kernel)
theorem im_yX2_remove : Cond.instanceMethod yX2_remove ∈ gT := gT_mem (i := 584) (by decide +kernel) (by decide +kernel)
theorem se_yX2_remove : Cond.selects RX2 yX2_remove yX2_remove ∈ gT := gT_mem (i := 585) (by decide +kernel) (by decide +kernel)
theorem cd_yX2_remove : Cond.code yX2_remove cX2_remove 2 none ∈ gT := gT_mem (i := 586) (by decide +kernel) (by decide +kernel)
theorem ml_X5_131 : Cond.methodLink RX5 131 yX3_count ∈ gT := gT_mem (i := 587) (by decide +kernel) (by decide +kernel)
theorem im_yX3_count : Cond.instanceMethod yX3_count ∈ gT := gT_mem (i := 588) (by decide +kernel) (by decide +kernel)
theorem se_yX3_count : Cond.selects RX3 yX3_count yX3_count ∈ gT := gT_mem (i := 589) (by decide +kernel) (by decide +kernel)
theorem cd_yX3_count : Cond.code yX3_count cX3_count 1 (some FieldType.int) ∈ gT := gT_mem (i := 590) (by decide +kernel) (by decide +kernel)
theorem ml_L_125 : Cond.methodLink RL 125 yL_ruleAt ∈ gT := gT_mem (i := 591) (by decide +kernel) (by decide +kernel)
theorem st_yL_ruleAt : Cond.static yL_ruleAt ∈ gT := gT_mem (i := 592) (by decide +kernel) (by decide +kernel)
theorem cw_yL_ruleAt : Cond.codeWith yL_ruleAt cL_ruleAt 5 (some FieldType.int) [(0, 10, 13, 32), (0, 10, 17, 26)] ∈ gT := gT_mem (i := 593) (by decide +kernel) (by decide +kernel)
theorem ml_L_34 : Cond.methodLink RL 34 yX5_ruleAt ∈ gT := gT_mem (i := 594) (by decide +kernel) (by decide +kernel)
theorem im_yX5_ruleAt : Cond.instanceMethod yX5_ruleAt ∈ gT := gT_mem (i := 595) (by decide +kernel) (by decide +kernel)
theorem se_yX5_ruleAt : Cond.selects RX5 yX5_ruleAt yX5_ruleAt ∈ gT := gT_mem (i := 596) (by decide +kernel) (by decide +kernel)
theorem cd_yX5_ruleAt : Cond.code yX5_ruleAt cX5_ruleAt 4 (some FieldType.char) ∈ gT := gT_mem (i := 597) (by decide +kernel) (by decide +kernel)
theorem ml_X5_132 : Cond.methodLink RX5 132 yX3_letterAt ∈ gT := gT_mem (i := 598) (by decide +kernel) (by decide +kernel)
theorem im_yX3_letterAt : Cond.instanceMethod yX3_letterAt ∈ gT := gT_mem (i := 599) (by decide +kernel) (by decide +kernel)
theorem se_yX3_letterAt : Cond.selects RX3 yX3_letterAt yX3_letterAt ∈ gT := gT_mem (i := 600) (by decide +kernel) (by decide +kernel)
theorem cd_yX3_letterAt : Cond.code yX3_letterAt cX3_letterAt 5 (some FieldType.int) ∈ gT := gT_mem (i := 601) (by decide +kernel) (by decide +kernel)
theorem ml_L_129 : Cond.methodLink RL 129 yL_turnException ∈ gT := gT_mem (i := 603) (by decide +kernel) (by decide +kernel)
theorem st_yL_turnException : Cond.static yL_turnException ∈ gT := gT_mem (i := 604) (by decide +kernel) (by decide +kernel)
theorem cw_yL_turnException : Cond.codeWith yL_turnException cL_turnException 3 (some FieldType.int) [(0, 15, 18, 13), (0, 15, 21, 15)] ∈ gT := gT_mem (i := 605) (by decide +kernel) (by decide +kernel)
theorem ml_L_38 : Cond.methodLink RL 38 yX5_turnException ∈ gT := gT_mem (i := 606) (by decide +kernel) (by decide +kernel)
theorem im_yX5_turnException : Cond.instanceMethod yX5_turnException ∈ gT := gT_mem (i := 607) (by decide +kernel) (by decide +kernel)
theorem se_yX5_turnException : Cond.selects RX5 yX5_turnException yX5_turnException ∈ gT := gT_mem (i := 608) (by decide +kernel) (by decide +kernel)
theorem cd_yX5_turnException : Cond.code yX5_turnException cX5_turnException 2 (some FieldType.boolean) ∈ gT := gT_mem (i := 609) (by decide +kernel) (by decide +kernel)
theorem ml_X5_141 : Cond.methodLink RX5 141 yX3_placeOfException ∈ gT := gT_mem (i := 611) (by decide +kernel) (by decide +kernel)
theorem ml_X5_145 : Cond.methodLink RX5 145 yX3_isFullOfExceptions ∈ gT := gT_mem (i := 612) (by decide +kernel) (by decide +kernel)
theorem im_yX3_isFullOfExceptions : Cond.instanceMethod yX3_isFullOfExceptions ∈ gT := gT_mem (i := 613) (by decide +kernel) (by decide +kernel)
theorem se_yX3_isFullOfExceptions : Cond.selects RX3 yX3_isFullOfExceptions yX3_isFullOfExceptions ∈ gT := gT_mem (i := 614) (by decide +kernel) (by decide +kernel)
theorem cd_yX3_isFullOfExceptions : Cond.code yX3_isFullOfExceptions cX3_isFullOfExceptions 1 (some FieldType.boolean) ∈ gT := gT_mem (i := 615) (by decide +kernel) (by decide +kernel)
theorem ml_X5_150 : Cond.methodLink RX5 150 yX3_addException ∈ gT := gT_mem (i := 617) (by decide +kernel) (by decide +kernel)
theorem im_yX3_addException : Cond.instanceMethod yX3_addException ∈ gT := gT_mem (i := 618) (by decide +kernel) (by decide +kernel)
theorem se_yX3_addException : Cond.selects RX3 yX3_addException yX3_addException ∈ gT := gT_mem (i := 619) (by decide +kernel) (by decide +kernel)
theorem cd_yX3_addException : Cond.code yX3_addException cX3_addException 3 none ∈ gT := gT_mem (i := 620) (by decide +kernel) (by decide +kernel)
theorem ml_X3_70 : Cond.methodLink RX3 70 yX1_cut ∈ gT := gT_mem (i := 621) (by decide +kernel) (by decide +kernel)
theorem ml_X5_154 : Cond.methodLink RX5 154 yX3_dropException ∈ gT := gT_mem (i := 622) (by decide +kernel) (by decide +kernel)
theorem im_yX3_dropException : Cond.instanceMethod yX3_dropException ∈ gT := gT_mem (i := 623) (by decide +kernel) (by decide +kernel)
theorem se_yX3_dropException : Cond.selects RX3 yX3_dropException yX3_dropException ∈ gT := gT_mem (i := 624) (by decide +kernel) (by decide +kernel)
theorem cd_yX3_dropException : Cond.code yX3_dropException cX3_dropException 2 none ∈ gT := gT_mem (i := 625) (by decide +kernel) (by decide +kernel)
theorem ml_X3_73 : Cond.methodLink RX3 73 yX1_drop ∈ gT := gT_mem (i := 626) (by decide +kernel) (by decide +kernel)
theorem im_yX1_drop : Cond.instanceMethod yX1_drop ∈ gT := gT_mem (i := 627) (by decide +kernel) (by decide +kernel)
theorem se_yX1_drop : Cond.selects RX1 yX1_drop yX1_drop ∈ gT := gT_mem (i := 628) (by decide +kernel) (by decide +kernel)
theorem cd_yX1_drop : Cond.code yX1_drop cX1_drop 5 none ∈ gT := gT_mem (i := 629) (by decide +kernel) (by decide +kernel)
theorem ml_X1_45 : Cond.methodLink RX1 45 yX1_sizeOf ∈ gT := gT_mem (i := 630) (by decide +kernel) (by decide +kernel)
theorem ml_X1_48 : Cond.methodLink RX1 48 yX2_remove ∈ gT := gT_mem (i := 631) (by decide +kernel) (by decide +kernel)
theorem ml_X1_51 : Cond.methodLink RX1 51 yX2_set ∈ gT := gT_mem (i := 632) (by decide +kernel) (by decide +kernel)
theorem ml_L_133 : Cond.methodLink RL 133 yL_setText ∈ gT := gT_mem (i := 633) (by decide +kernel) (by decide +kernel)
theorem st_yL_setText : Cond.static yL_setText ∈ gT := gT_mem (i := 634) (by decide +kernel) (by decide +kernel)
theorem cw_yL_setText : Cond.codeWith yL_setText cL_setText 5 (some FieldType.int) [(0, 10, 13, 32), (0, 10, 17, 13)] ∈ gT := gT_mem (i := 635) (by decide +kernel) (by decide +kernel)
theorem ml_L_42 : Cond.methodLink RL 42 yX5_setText ∈ gT := gT_mem (i := 636) (by decide +kernel) (by decide +kernel)
theorem im_yX5_setText : Cond.instanceMethod yX5_setText ∈ gT := gT_mem (i := 637) (by decide +kernel) (by decide +kernel)
theorem se_yX5_setText : Cond.selects RX5 yX5_setText yX5_setText ∈ gT := gT_mem (i := 638) (by decide +kernel) (by decide +kernel)
theorem cd_yX5_setText : Cond.code yX5_setText cX5_setText 4 (some FieldType.int) ∈ gT := gT_mem (i := 639) (by decide +kernel) (by decide +kernel)
theorem mn_X5_164 : Cond.methodLinkNest RX5 164 yX4_init RX5 ∈ lw_tbl := List.mem_of_getElem? (i := 642) (by decide +kernel)
theorem im_yX4_init : Cond.instanceMethod yX4_init ∈ gT := gT_mem (i := 643) (by decide +kernel) (by decide +kernel)
theorem cd_yX4_init : Cond.code yX4_init cX4_init 1 none ∈ gT := gT_mem (i := 644) (by decide +kernel) (by decide +kernel)
theorem ml_X4_3 : Cond.methodLink RX4 3 ⟨"java/lang/Object", "<init>", "()V"⟩ ∈ gT := gT_mem (i := 645) (by decide +kernel) (by decide +kernel)
theorem cl_X4_9 : Cond.classLink RX4 9 RX1 ∈ gT := gT_mem (i := 646) (by decide +kernel) (by decide +kernel)
theorem ml_X4_11 : Cond.methodLink RX4 11 yX1_init ∈ gT := gT_mem (i := 647) (by decide +kernel) (by decide +kernel)
theorem cl_X4_23 : Cond.classLink RX4 23 RX2 ∈ gT := gT_mem (i := 648) (by decide +kernel) (by decide +kernel)
theorem ml_X4_25 : Cond.methodLink RX4 25 yX2_init ∈ gT := gT_mem (i := 649) (by decide +kernel) (by decide +kernel)
theorem fl_X4_14 : Cond.fieldLink RX4 14 "Dotpress$Text" "typed" "LDotpress$Pieces;" ∈ gT := gT_mem (i := 650) (by decide +kernel) (by decide +kernel)
theorem fl_X4_20 : Cond.fieldLink RX4 20 "Dotpress$Text" "cells" "LDotpress$Pieces;" ∈ gT := gT_mem (i := 651) (by decide +kernel) (by decide +kernel)
theorem fl_X4_28 : Cond.fieldLink RX4 28 "Dotpress$Text" "marks" "LDotpress$Row;" ∈ gT := gT_mem (i := 652) (by decide +kernel) (by decide +kernel)
theorem fl_X4_32 : Cond.fieldLink RX4 32 "Dotpress$Text" "laid" "LDotpress$Pieces;" ∈ gT := gT_mem (i := 653) (by decide +kernel) (by decide +kernel)
theorem fl_X4_35 : Cond.fieldLink RX4 35 "Dotpress$Text" "firstLines" "LDotpress$Row;" ∈ gT := gT_mem (i := 654) (by decide +kernel) (by decide +kernel)
theorem fl_X4_38 : Cond.fieldLink RX4 38 "Dotpress$Text" "embossed" "LDotpress$Pieces;" ∈ gT := gT_mem (i := 655) (by decide +kernel) (by decide +kernel)
theorem fl_X4_41 : Cond.fieldLink RX4 41 "Dotpress$Text" "grade" "I" ∈ gT := gT_mem (i := 656) (by decide +kernel) (by decide +kernel)
theorem ml_X5_165 : Cond.methodLink RX5 165 yX4_take ∈ gT := gT_mem (i := 672) (by decide +kernel) (by decide +kernel)
theorem im_yX4_take : Cond.instanceMethod yX4_take ∈ gT := gT_mem (i := 673) (by decide +kernel) (by decide +kernel)
theorem se_yX4_take : Cond.selects RX4 yX4_take yX4_take ∈ gT := gT_mem (i := 674) (by decide +kernel) (by decide +kernel)
theorem cd_yX4_take : Cond.code yX4_take cX4_take 4 none ∈ gT := gT_mem (i := 675) (by decide +kernel) (by decide +kernel)
theorem ml_X5_176 : Cond.methodLink RX5 176 yX4_wordCount ∈ gT := gT_mem (i := 676) (by decide +kernel) (by decide +kernel)
theorem im_yX4_wordCount : Cond.instanceMethod yX4_wordCount ∈ gT := gT_mem (i := 677) (by decide +kernel) (by decide +kernel)
theorem se_yX4_wordCount : Cond.selects RX4 yX4_wordCount yX4_wordCount ∈ gT := gT_mem (i := 678) (by decide +kernel) (by decide +kernel)
theorem cd_yX4_wordCount : Cond.code yX4_wordCount cX4_wordCount 1 (some FieldType.int) ∈ gT := gT_mem (i := 679) (by decide +kernel) (by decide +kernel)
theorem ml_L_136 : Cond.methodLink RL 136 yL_setWidth ∈ gT := gT_mem (i := 680) (by decide +kernel) (by decide +kernel)
theorem st_yL_setWidth : Cond.static yL_setWidth ∈ gT := gT_mem (i := 681) (by decide +kernel) (by decide +kernel)
theorem cw_yL_setWidth : Cond.codeWith yL_setWidth cL_setWidth 4 (some FieldType.int) [(0, 9, 12, 13)] ∈ gT := gT_mem (i := 682) (by decide +kernel) (by decide +kernel)
theorem ml_L_46 : Cond.methodLink RL 46 yX5_setWidth ∈ gT := gT_mem (i := 683) (by decide +kernel) (by decide +kernel)
theorem im_yX5_setWidth : Cond.instanceMethod yX5_setWidth ∈ gT := gT_mem (i := 684) (by decide +kernel) (by decide +kernel)
theorem se_yX5_setWidth : Cond.selects RX5 yX5_setWidth yX5_setWidth ∈ gT := gT_mem (i := 685) (by decide +kernel) (by decide +kernel)
theorem cd_yX5_setWidth : Cond.code yX5_setWidth cX5_setWidth 7 (some FieldType.int) ∈ gT := gT_mem (i := 686) (by decide +kernel) (by decide +kernel)
theorem ml_L_139 : Cond.methodLink RL 139 yL_words ∈ gT := gT_mem (i := 688) (by decide +kernel) (by decide +kernel)
theorem st_yL_words : Cond.static yL_words ∈ gT := gT_mem (i := 689) (by decide +kernel) (by decide +kernel)
theorem cw_yL_words : Cond.codeWith yL_words cL_words 4 (some FieldType.int) [(0, 9, 12, 32)] ∈ gT := gT_mem (i := 690) (by decide +kernel) (by decide +kernel)
theorem ml_L_49 : Cond.methodLink RL 49 yX5_words ∈ gT := gT_mem (i := 691) (by decide +kernel) (by decide +kernel)
theorem im_yX5_words : Cond.instanceMethod yX5_words ∈ gT := gT_mem (i := 692) (by decide +kernel) (by decide +kernel)
theorem se_yX5_words : Cond.selects RX5 yX5_words yX5_words ∈ gT := gT_mem (i := 693) (by decide +kernel) (by decide +kernel)
theorem cd_yX5_words : Cond.code yX5_words cX5_words 2 (some FieldType.int) ∈ gT := gT_mem (i := 694) (by decide +kernel) (by decide +kernel)
theorem ml_X5_181 : Cond.methodLink RX5 181 yX5_textNumbered ∈ gT := gT_mem (i := 695) (by decide +kernel) (by decide +kernel)
theorem im_yX5_textNumbered : Cond.instanceMethod yX5_textNumbered ∈ gT := gT_mem (i := 697) (by decide +kernel) (by decide +kernel)
theorem cd_yX5_textNumbered : Cond.code yX5_textNumbered cX5_textNumbered 3 (some (FieldType.object "Dotpress$Text")) ∈ gT := gT_mem (i := 698) (by decide +kernel) (by decide +kernel)
theorem ml_L_142 : Cond.methodLink RL 142 yL_length ∈ gT := gT_mem (i := 700) (by decide +kernel) (by decide +kernel)
theorem st_yL_length : Cond.static yL_length ∈ gT := gT_mem (i := 701) (by decide +kernel) (by decide +kernel)
theorem cw_yL_length : Cond.codeWith yL_length cL_length 5 (some FieldType.int) [(0, 10, 13, 32)] ∈ gT := gT_mem (i := 702) (by decide +kernel) (by decide +kernel)
theorem ml_L_52 : Cond.methodLink RL 52 yX5_length ∈ gT := gT_mem (i := 703) (by decide +kernel) (by decide +kernel)
theorem im_yX5_length : Cond.instanceMethod yX5_length ∈ gT := gT_mem (i := 704) (by decide +kernel) (by decide +kernel)
theorem se_yX5_length : Cond.selects RX5 yX5_length yX5_length ∈ gT := gT_mem (i := 705) (by decide +kernel) (by decide +kernel)
theorem cd_yX5_length : Cond.code yX5_length cX5_length 3 (some FieldType.int) ∈ gT := gT_mem (i := 706) (by decide +kernel) (by decide +kernel)
theorem ml_X5_185 : Cond.methodLink RX5 185 yX5_textWithWord ∈ gT := gT_mem (i := 707) (by decide +kernel) (by decide +kernel)
theorem im_yX5_textWithWord : Cond.instanceMethod yX5_textWithWord ∈ gT := gT_mem (i := 709) (by decide +kernel) (by decide +kernel)
theorem cd_yX5_textWithWord : Cond.code yX5_textWithWord cX5_textWithWord 4 (some (FieldType.object "Dotpress$Text")) ∈ gT := gT_mem (i := 710) (by decide +kernel) (by decide +kernel)
theorem ml_X5_189 : Cond.methodLink RX5 189 yX4_cellCount ∈ gT := gT_mem (i := 712) (by decide +kernel) (by decide +kernel)
theorem im_yX4_cellCount : Cond.instanceMethod yX4_cellCount ∈ gT := gT_mem (i := 713) (by decide +kernel) (by decide +kernel)
theorem se_yX4_cellCount : Cond.selects RX4 yX4_cellCount yX4_cellCount ∈ gT := gT_mem (i := 714) (by decide +kernel) (by decide +kernel)
theorem cd_yX4_cellCount : Cond.code yX4_cellCount cX4_cellCount 2 (some FieldType.int) ∈ gT := gT_mem (i := 715) (by decide +kernel) (by decide +kernel)
theorem ml_L_145 : Cond.methodLink RL 145 yL_cellOf ∈ gT := gT_mem (i := 716) (by decide +kernel) (by decide +kernel)
theorem st_yL_cellOf : Cond.static yL_cellOf ∈ gT := gT_mem (i := 717) (by decide +kernel) (by decide +kernel)
theorem cw_yL_cellOf : Cond.codeWith yL_cellOf cL_cellOf 6 (some FieldType.int) [(0, 12, 15, 32), (0, 12, 19, 26)] ∈ gT := gT_mem (i := 718) (by decide +kernel) (by decide +kernel)
theorem ml_L_55 : Cond.methodLink RL 55 yX5_cellOf ∈ gT := gT_mem (i := 719) (by decide +kernel) (by decide +kernel)
theorem im_yX5_cellOf : Cond.instanceMethod yX5_cellOf ∈ gT := gT_mem (i := 720) (by decide +kernel) (by decide +kernel)
theorem se_yX5_cellOf : Cond.selects RX5 yX5_cellOf yX5_cellOf ∈ gT := gT_mem (i := 721) (by decide +kernel) (by decide +kernel)
theorem cd_yX5_cellOf : Cond.code yX5_cellOf cX5_cellOf 5 (some FieldType.int) ∈ gT := gT_mem (i := 722) (by decide +kernel) (by decide +kernel)
theorem ml_X5_194 : Cond.methodLink RX5 194 yX4_cellAt ∈ gT := gT_mem (i := 724) (by decide +kernel) (by decide +kernel)
theorem im_yX4_cellAt : Cond.instanceMethod yX4_cellAt ∈ gT := gT_mem (i := 725) (by decide +kernel) (by decide +kernel)
theorem se_yX4_cellAt : Cond.selects RX4 yX4_cellAt yX4_cellAt ∈ gT := gT_mem (i := 726) (by decide +kernel) (by decide +kernel)
theorem cd_yX4_cellAt : Cond.code yX4_cellAt cX4_cellAt 3 (some FieldType.int) ∈ gT := gT_mem (i := 727) (by decide +kernel) (by decide +kernel)
theorem ml_L_148 : Cond.methodLink RL 148 yL_lines ∈ gT := gT_mem (i := 728) (by decide +kernel) (by decide +kernel)
theorem st_yL_lines : Cond.static yL_lines ∈ gT := gT_mem (i := 729) (by decide +kernel) (by decide +kernel)
theorem cw_yL_lines : Cond.codeWith yL_lines cL_lines 4 (some FieldType.int) [(0, 9, 12, 32)] ∈ gT := gT_mem (i := 730) (by decide +kernel) (by decide +kernel)
theorem ml_L_58 : Cond.methodLink RL 58 yX5_lines ∈ gT := gT_mem (i := 731) (by decide +kernel) (by decide +kernel)
theorem im_yX5_lines : Cond.instanceMethod yX5_lines ∈ gT := gT_mem (i := 732) (by decide +kernel) (by decide +kernel)
theorem se_yX5_lines : Cond.selects RX5 yX5_lines yX5_lines ∈ gT := gT_mem (i := 733) (by decide +kernel) (by decide +kernel)
theorem cd_yX5_lines : Cond.code yX5_lines cX5_lines 2 (some FieldType.int) ∈ gT := gT_mem (i := 734) (by decide +kernel) (by decide +kernel)
theorem ml_X5_197 : Cond.methodLink RX5 197 yX4_lineCount ∈ gT := gT_mem (i := 735) (by decide +kernel) (by decide +kernel)
theorem im_yX4_lineCount : Cond.instanceMethod yX4_lineCount ∈ gT := gT_mem (i := 736) (by decide +kernel) (by decide +kernel)
theorem se_yX4_lineCount : Cond.selects RX4 yX4_lineCount yX4_lineCount ∈ gT := gT_mem (i := 737) (by decide +kernel) (by decide +kernel)
theorem cd_yX4_lineCount : Cond.code yX4_lineCount cX4_lineCount 1 (some FieldType.int) ∈ gT := gT_mem (i := 738) (by decide +kernel) (by decide +kernel)
theorem ml_L_151 : Cond.methodLink RL 151 yL_lineAt ∈ gT := gT_mem (i := 739) (by decide +kernel) (by decide +kernel)
theorem st_yL_lineAt : Cond.static yL_lineAt ∈ gT := gT_mem (i := 740) (by decide +kernel) (by decide +kernel)
theorem cw_yL_lineAt : Cond.codeWith yL_lineAt cL_lineAt 6 (some FieldType.int) [(0, 12, 15, 32), (0, 12, 19, 26)] ∈ gT := gT_mem (i := 741) (by decide +kernel) (by decide +kernel)
theorem ml_L_61 : Cond.methodLink RL 61 yX5_lineAt ∈ gT := gT_mem (i := 742) (by decide +kernel) (by decide +kernel)
theorem im_yX5_lineAt : Cond.instanceMethod yX5_lineAt ∈ gT := gT_mem (i := 743) (by decide +kernel) (by decide +kernel)
theorem se_yX5_lineAt : Cond.selects RX5 yX5_lineAt yX5_lineAt ∈ gT := gT_mem (i := 744) (by decide +kernel) (by decide +kernel)
theorem cd_yX5_lineAt : Cond.code yX5_lineAt cX5_lineAt 5 (some FieldType.int) ∈ gT := gT_mem (i := 745) (by decide +kernel) (by decide +kernel)
theorem ml_X5_202 : Cond.methodLink RX5 202 yX4_lineSize ∈ gT := gT_mem (i := 747) (by decide +kernel) (by decide +kernel)
theorem im_yX4_lineSize : Cond.instanceMethod yX4_lineSize ∈ gT := gT_mem (i := 748) (by decide +kernel) (by decide +kernel)
theorem se_yX4_lineSize : Cond.selects RX4 yX4_lineSize yX4_lineSize ∈ gT := gT_mem (i := 749) (by decide +kernel) (by decide +kernel)
theorem cd_yX4_lineSize : Cond.code yX4_lineSize cX4_lineSize 2 (some FieldType.int) ∈ gT := gT_mem (i := 750) (by decide +kernel) (by decide +kernel)
theorem ml_X5_207 : Cond.methodLink RX5 207 yX4_laidCellAt ∈ gT := gT_mem (i := 752) (by decide +kernel) (by decide +kernel)
theorem im_yX4_laidCellAt : Cond.instanceMethod yX4_laidCellAt ∈ gT := gT_mem (i := 753) (by decide +kernel) (by decide +kernel)
theorem se_yX4_laidCellAt : Cond.selects RX4 yX4_laidCellAt yX4_laidCellAt ∈ gT := gT_mem (i := 754) (by decide +kernel) (by decide +kernel)
theorem cd_yX4_laidCellAt : Cond.code yX4_laidCellAt cX4_laidCellAt 3 (some FieldType.int) ∈ gT := gT_mem (i := 755) (by decide +kernel) (by decide +kernel)
theorem ml_L_154 : Cond.methodLink RL 154 yL_lineOf ∈ gT := gT_mem (i := 756) (by decide +kernel) (by decide +kernel)
theorem st_yL_lineOf : Cond.static yL_lineOf ∈ gT := gT_mem (i := 757) (by decide +kernel) (by decide +kernel)
theorem cw_yL_lineOf : Cond.codeWith yL_lineOf cL_lineOf 5 (some FieldType.int) [(0, 10, 13, 32)] ∈ gT := gT_mem (i := 758) (by decide +kernel) (by decide +kernel)
theorem ml_L_64 : Cond.methodLink RL 64 yX5_lineOf ∈ gT := gT_mem (i := 759) (by decide +kernel) (by decide +kernel)
theorem im_yX5_lineOf : Cond.instanceMethod yX5_lineOf ∈ gT := gT_mem (i := 760) (by decide +kernel) (by decide +kernel)
theorem se_yX5_lineOf : Cond.selects RX5 yX5_lineOf yX5_lineOf ∈ gT := gT_mem (i := 761) (by decide +kernel) (by decide +kernel)
theorem cd_yX5_lineOf : Cond.code yX5_lineOf cX5_lineOf 3 (some FieldType.int) ∈ gT := gT_mem (i := 762) (by decide +kernel) (by decide +kernel)
theorem ml_X5_210 : Cond.methodLink RX5 210 yX4_firstLineOf ∈ gT := gT_mem (i := 763) (by decide +kernel) (by decide +kernel)
theorem im_yX4_firstLineOf : Cond.instanceMethod yX4_firstLineOf ∈ gT := gT_mem (i := 764) (by decide +kernel) (by decide +kernel)
theorem se_yX4_firstLineOf : Cond.selects RX4 yX4_firstLineOf yX4_firstLineOf ∈ gT := gT_mem (i := 765) (by decide +kernel) (by decide +kernel)
theorem cd_yX4_firstLineOf : Cond.code yX4_firstLineOf cX4_firstLineOf 2 (some FieldType.int) ∈ gT := gT_mem (i := 766) (by decide +kernel) (by decide +kernel)
theorem ml_L_157 : Cond.methodLink RL 157 yL_emboss ∈ gT := gT_mem (i := 767) (by decide +kernel) (by decide +kernel)
theorem st_yL_emboss : Cond.static yL_emboss ∈ gT := gT_mem (i := 768) (by decide +kernel) (by decide +kernel)
theorem cw_yL_emboss : Cond.codeWith yL_emboss cL_emboss 4 (some FieldType.int) [(0, 9, 12, 32), (0, 9, 15, 15)] ∈ gT := gT_mem (i := 769) (by decide +kernel) (by decide +kernel)
theorem ml_L_67 : Cond.methodLink RL 67 yX5_emboss ∈ gT := gT_mem (i := 770) (by decide +kernel) (by decide +kernel)
theorem im_yX5_emboss : Cond.instanceMethod yX5_emboss ∈ gT := gT_mem (i := 771) (by decide +kernel) (by decide +kernel)
theorem se_yX5_emboss : Cond.selects RX5 yX5_emboss yX5_emboss ∈ gT := gT_mem (i := 772) (by decide +kernel) (by decide +kernel)
theorem cd_yX5_emboss : Cond.code yX5_emboss cX5_emboss 8 (some FieldType.int) ∈ gT := gT_mem (i := 773) (by decide +kernel) (by decide +kernel)
theorem ml_X5_213 : Cond.methodLink RX5 213 yX0_forgetPlan ∈ gT := gT_mem (i := 774) (by decide +kernel) (by decide +kernel)
theorem im_yX0_forgetPlan : Cond.instanceMethod yX0_forgetPlan ∈ gT := gT_mem (i := 775) (by decide +kernel) (by decide +kernel)
theorem se_yX0_forgetPlan : Cond.selects RX0 yX0_forgetPlan yX0_forgetPlan ∈ gT := gT_mem (i := 776) (by decide +kernel) (by decide +kernel)
theorem cd_yX0_forgetPlan : Cond.code yX0_forgetPlan cX0_forgetPlan 2 none ∈ gT := gT_mem (i := 777) (by decide +kernel) (by decide +kernel)
theorem ml_X0_37 : Cond.methodLink RX0 37 yX2_set ∈ gT := gT_mem (i := 778) (by decide +kernel) (by decide +kernel)
theorem ml_X5_216 : Cond.methodLink RX5 216 yX4_isOther ∈ gT := gT_mem (i := 779) (by decide +kernel) (by decide +kernel)
theorem im_yX4_isOther : Cond.instanceMethod yX4_isOther ∈ gT := gT_mem (i := 780) (by decide +kernel) (by decide +kernel)
theorem se_yX4_isOther : Cond.selects RX4 yX4_isOther yX4_isOther ∈ gT := gT_mem (i := 781) (by decide +kernel) (by decide +kernel)
theorem cd_yX4_isOther : Cond.code yX4_isOther cX4_isOther 2 (some FieldType.boolean) ∈ gT := gT_mem (i := 782) (by decide +kernel) (by decide +kernel)
theorem ml_X5_219 : Cond.methodLink RX5 219 yX5_planLine ∈ gT := gT_mem (i := 783) (by decide +kernel) (by decide +kernel)
theorem im_yX5_planLine : Cond.instanceMethod yX5_planLine ∈ gT := gT_mem (i := 785) (by decide +kernel) (by decide +kernel)
theorem cd_yX5_planLine : Cond.code yX5_planLine cX5_planLine 4 none ∈ gT := gT_mem (i := 786) (by decide +kernel) (by decide +kernel)
theorem ml_X5_293 : Cond.methodLink RX5 293 yX0_planCell ∈ gT := gT_mem (i := 787) (by decide +kernel) (by decide +kernel)
theorem im_yX0_planCell : Cond.instanceMethod yX0_planCell ∈ gT := gT_mem (i := 788) (by decide +kernel) (by decide +kernel)
theorem se_yX0_planCell : Cond.selects RX0 yX0_planCell yX0_planCell ∈ gT := gT_mem (i := 789) (by decide +kernel) (by decide +kernel)
theorem cd_yX0_planCell : Cond.code yX0_planCell cX0_planCell 3 none ∈ gT := gT_mem (i := 790) (by decide +kernel) (by decide +kernel)
theorem ml_X5_223 : Cond.methodLink RX5 223 yX0_bearsPlan ∈ gT := gT_mem (i := 791) (by decide +kernel) (by decide +kernel)
theorem im_yX0_bearsPlan : Cond.instanceMethod yX0_bearsPlan ∈ gT := gT_mem (i := 792) (by decide +kernel) (by decide +kernel)
theorem se_yX0_bearsPlan : Cond.selects RX0 yX0_bearsPlan yX0_bearsPlan ∈ gT := gT_mem (i := 793) (by decide +kernel) (by decide +kernel)
theorem cd_yX0_bearsPlan : Cond.code yX0_bearsPlan cX0_bearsPlan 2 (some FieldType.boolean) ∈ gT := gT_mem (i := 794) (by decide +kernel) (by decide +kernel)
theorem ml_X5_228 : Cond.methodLink RX5 228 yX0_strikePlan ∈ gT := gT_mem (i := 796) (by decide +kernel) (by decide +kernel)
theorem im_yX0_strikePlan : Cond.instanceMethod yX0_strikePlan ∈ gT := gT_mem (i := 797) (by decide +kernel) (by decide +kernel)
theorem se_yX0_strikePlan : Cond.selects RX0 yX0_strikePlan yX0_strikePlan ∈ gT := gT_mem (i := 798) (by decide +kernel) (by decide +kernel)
theorem cd_yX0_strikePlan : Cond.code yX0_strikePlan cX0_strikePlan 2 none ∈ gT := gT_mem (i := 799) (by decide +kernel) (by decide +kernel)
theorem ml_X5_231 : Cond.methodLink RX5 231 yX4_keepAsEmbossed ∈ gT := gT_mem (i := 800) (by decide +kernel) (by decide +kernel)
theorem im_yX4_keepAsEmbossed : Cond.instanceMethod yX4_keepAsEmbossed ∈ gT := gT_mem (i := 801) (by decide +kernel) (by decide +kernel)
theorem se_yX4_keepAsEmbossed : Cond.selects RX4 yX4_keepAsEmbossed yX4_keepAsEmbossed ∈ gT := gT_mem (i := 802) (by decide +kernel) (by decide +kernel)
theorem cd_yX4_keepAsEmbossed : Cond.code yX4_keepAsEmbossed cX4_keepAsEmbossed 1 none ∈ gT := gT_mem (i := 803) (by decide +kernel) (by decide +kernel)
theorem ml_L_160 : Cond.methodLink RL 160 yL_changed ∈ gT := gT_mem (i := 804) (by decide +kernel) (by decide +kernel)
theorem st_yL_changed : Cond.static yL_changed ∈ gT := gT_mem (i := 805) (by decide +kernel) (by decide +kernel)
theorem cw_yL_changed : Cond.codeWith yL_changed cL_changed 4 (some FieldType.int) [(0, 9, 12, 32)] ∈ gT := gT_mem (i := 806) (by decide +kernel) (by decide +kernel)
theorem ml_L_70 : Cond.methodLink RL 70 yX5_changed ∈ gT := gT_mem (i := 807) (by decide +kernel) (by decide +kernel)
theorem im_yX5_changed : Cond.instanceMethod yX5_changed ∈ gT := gT_mem (i := 808) (by decide +kernel) (by decide +kernel)
theorem se_yX5_changed : Cond.selects RX5 yX5_changed yX5_changed ∈ gT := gT_mem (i := 809) (by decide +kernel) (by decide +kernel)
theorem cd_yX5_changed : Cond.code yX5_changed cX5_changed 2 (some FieldType.int) ∈ gT := gT_mem (i := 810) (by decide +kernel) (by decide +kernel)
theorem ml_X5_234 : Cond.methodLink RX5 234 yX4_otherLineCount ∈ gT := gT_mem (i := 811) (by decide +kernel) (by decide +kernel)
theorem im_yX4_otherLineCount : Cond.instanceMethod yX4_otherLineCount ∈ gT := gT_mem (i := 812) (by decide +kernel) (by decide +kernel)
theorem se_yX4_otherLineCount : Cond.selects RX4 yX4_otherLineCount yX4_otherLineCount ∈ gT := gT_mem (i := 813) (by decide +kernel) (by decide +kernel)
theorem cd_yX4_otherLineCount : Cond.code yX4_otherLineCount cX4_otherLineCount 3 (some FieldType.int) ∈ gT := gT_mem (i := 814) (by decide +kernel) (by decide +kernel)
theorem ml_X4_104 : Cond.methodLink RX4 104 yJ9_max_7cf53 ∈ gT := gT_mem (i := 815) (by decide +kernel) (by decide +kernel)
theorem st_yJ9_max_7cf53 : Cond.static yJ9_max_7cf53 ∈ gT := gT_mem (i := 816) (by decide +kernel) (by decide +kernel)
theorem cd_yJ9_max_7cf53 : Cond.code yJ9_max_7cf53 cJ9_max_7cf53 2 (some FieldType.int) ∈ gT := gT_mem (i := 817) (by decide +kernel) (by decide +kernel)
theorem ml_X4_109 : Cond.methodLink RX4 109 yX4_isOther ∈ gT := gT_mem (i := 818) (by decide +kernel) (by decide +kernel)
theorem ml_L_163 : Cond.methodLink RL 163 yL_setBearing ∈ gT := gT_mem (i := 819) (by decide +kernel) (by decide +kernel)
theorem st_yL_setBearing : Cond.static yL_setBearing ∈ gT := gT_mem (i := 820) (by decide +kernel) (by decide +kernel)
theorem cw_yL_setBearing : Cond.codeWith yL_setBearing cL_setBearing 4 (some FieldType.int) [(0, 9, 12, 13)] ∈ gT := gT_mem (i := 821) (by decide +kernel) (by decide +kernel)
theorem ml_L_73 : Cond.methodLink RL 73 yX5_setBearing ∈ gT := gT_mem (i := 822) (by decide +kernel) (by decide +kernel)
theorem im_yX5_setBearing : Cond.instanceMethod yX5_setBearing ∈ gT := gT_mem (i := 823) (by decide +kernel) (by decide +kernel)
theorem se_yX5_setBearing : Cond.selects RX5 yX5_setBearing yX5_setBearing ∈ gT := gT_mem (i := 824) (by decide +kernel) (by decide +kernel)
theorem cd_yX5_setBearing : Cond.code yX5_setBearing cX5_setBearing 2 (some FieldType.int) ∈ gT := gT_mem (i := 825) (by decide +kernel) (by decide +kernel)
theorem ml_X5_239 : Cond.methodLink RX5 239 yX0_changeBearing ∈ gT := gT_mem (i := 827) (by decide +kernel) (by decide +kernel)
theorem im_yX0_changeBearing : Cond.instanceMethod yX0_changeBearing ∈ gT := gT_mem (i := 828) (by decide +kernel) (by decide +kernel)
theorem se_yX0_changeBearing : Cond.selects RX0 yX0_changeBearing yX0_changeBearing ∈ gT := gT_mem (i := 829) (by decide +kernel) (by decide +kernel)
theorem cd_yX0_changeBearing : Cond.code yX0_changeBearing cX0_changeBearing 3 (some FieldType.int) ∈ gT := gT_mem (i := 830) (by decide +kernel) (by decide +kernel)
theorem ml_L_166 : Cond.methodLink RL 166 yL_replace ∈ gT := gT_mem (i := 831) (by decide +kernel) (by decide +kernel)
theorem st_yL_replace : Cond.static yL_replace ∈ gT := gT_mem (i := 832) (by decide +kernel) (by decide +kernel)
theorem cw_yL_replace : Cond.codeWith yL_replace cL_replace 4 (some FieldType.int) [(0, 9, 12, 32)] ∈ gT := gT_mem (i := 833) (by decide +kernel) (by decide +kernel)
theorem ml_L_76 : Cond.methodLink RL 76 yX5_replace ∈ gT := gT_mem (i := 834) (by decide +kernel) (by decide +kernel)
theorem im_yX5_replace : Cond.instanceMethod yX5_replace ∈ gT := gT_mem (i := 835) (by decide +kernel) (by decide +kernel)
theorem se_yX5_replace : Cond.selects RX5 yX5_replace yX5_replace ∈ gT := gT_mem (i := 836) (by decide +kernel) (by decide +kernel)
theorem cd_yX5_replace : Cond.code yX5_replace cX5_replace 2 (some FieldType.int) ∈ gT := gT_mem (i := 837) (by decide +kernel) (by decide +kernel)
theorem ml_X5_244 : Cond.methodLink RX5 244 yX0_renewPin ∈ gT := gT_mem (i := 839) (by decide +kernel) (by decide +kernel)
theorem im_yX0_renewPin : Cond.instanceMethod yX0_renewPin ∈ gT := gT_mem (i := 840) (by decide +kernel) (by decide +kernel)
theorem se_yX0_renewPin : Cond.selects RX0 yX0_renewPin yX0_renewPin ∈ gT := gT_mem (i := 841) (by decide +kernel) (by decide +kernel)
theorem cd_yX0_renewPin : Cond.code yX0_renewPin cX0_renewPin 3 (some FieldType.int) ∈ gT := gT_mem (i := 842) (by decide +kernel) (by decide +kernel)
theorem ml_X0_34 : Cond.methodLink RX0 34 yX0_wearOf ∈ gT := gT_mem (i := 843) (by decide +kernel) (by decide +kernel)
theorem im_yX0_wearOf : Cond.instanceMethod yX0_wearOf ∈ gT := gT_mem (i := 844) (by decide +kernel) (by decide +kernel)
theorem se_yX0_wearOf : Cond.selects RX0 yX0_wearOf yX0_wearOf ∈ gT := gT_mem (i := 845) (by decide +kernel) (by decide +kernel)
theorem cd_yX0_wearOf : Cond.code yX0_wearOf cX0_wearOf 2 (some FieldType.int) ∈ gT := gT_mem (i := 846) (by decide +kernel) (by decide +kernel)
theorem ml_L_169 : Cond.methodLink RL 169 yL_strikes ∈ gT := gT_mem (i := 847) (by decide +kernel) (by decide +kernel)
theorem st_yL_strikes : Cond.static yL_strikes ∈ gT := gT_mem (i := 848) (by decide +kernel) (by decide +kernel)
theorem cw_yL_strikes : Cond.codeWith yL_strikes cL_strikes 4 (some FieldType.int) [(0, 9, 12, 32)] ∈ gT := gT_mem (i := 849) (by decide +kernel) (by decide +kernel)
theorem ml_L_79 : Cond.methodLink RL 79 yX5_strikes ∈ gT := gT_mem (i := 850) (by decide +kernel) (by decide +kernel)
theorem im_yX5_strikes : Cond.instanceMethod yX5_strikes ∈ gT := gT_mem (i := 851) (by decide +kernel) (by decide +kernel)
theorem se_yX5_strikes : Cond.selects RX5 yX5_strikes yX5_strikes ∈ gT := gT_mem (i := 852) (by decide +kernel) (by decide +kernel)
theorem cd_yX5_strikes : Cond.code yX5_strikes cX5_strikes 2 (some FieldType.int) ∈ gT := gT_mem (i := 853) (by decide +kernel) (by decide +kernel)
theorem ml_X5_247 : Cond.methodLink RX5 247 yX0_wearOf ∈ gT := gT_mem (i := 854) (by decide +kernel) (by decide +kernel)
theorem ml_L_172 : Cond.methodLink RL 172 yL_mark ∈ gT := gT_mem (i := 855) (by decide +kernel) (by decide +kernel)
theorem st_yL_mark : Cond.static yL_mark ∈ gT := gT_mem (i := 856) (by decide +kernel) (by decide +kernel)
theorem cw_yL_mark : Cond.codeWith yL_mark cL_mark 7 (some FieldType.int) [(0, 21, 24, 32)] ∈ gT := gT_mem (i := 857) (by decide +kernel) (by decide +kernel)
theorem ml_L_82 : Cond.methodLink RL 82 yX5_mark ∈ gT := gT_mem (i := 858) (by decide +kernel) (by decide +kernel)
theorem im_yX5_mark : Cond.instanceMethod yX5_mark ∈ gT := gT_mem (i := 859) (by decide +kernel) (by decide +kernel)
theorem se_yX5_mark : Cond.selects RX5 yX5_mark yX5_mark ∈ gT := gT_mem (i := 860) (by decide +kernel) (by decide +kernel)
theorem cd_yX5_mark : Cond.code yX5_mark cX5_mark 7 (some FieldType.boolean) ∈ gT := gT_mem (i := 861) (by decide +kernel) (by decide +kernel)
theorem ml_X5_250 : Cond.methodLink RX5 250 yX5_isReader ∈ gT := gT_mem (i := 862) (by decide +kernel) (by decide +kernel)
theorem st_yX5_isReader : Cond.static yX5_isReader ∈ gT := gT_mem (i := 863) (by decide +kernel) (by decide +kernel)
theorem cd_yX5_isReader : Cond.code yX5_isReader cX5_isReader 1 (some FieldType.boolean) ∈ gT := gT_mem (i := 864) (by decide +kernel) (by decide +kernel)
theorem ml_X5_255 : Cond.methodLink RX5 255 yX4_putMark ∈ gT := gT_mem (i := 866) (by decide +kernel) (by decide +kernel)
theorem ml_X5_259 : Cond.methodLink RX5 259 yX4_markBy ∈ gT := gT_mem (i := 867) (by decide +kernel) (by decide +kernel)
theorem im_yX4_markBy : Cond.instanceMethod yX4_markBy ∈ gT := gT_mem (i := 868) (by decide +kernel) (by decide +kernel)
theorem se_yX4_markBy : Cond.selects RX4 yX4_markBy yX4_markBy ∈ gT := gT_mem (i := 869) (by decide +kernel) (by decide +kernel)
theorem cd_yX4_markBy : Cond.code yX4_markBy cX4_markBy 3 (some FieldType.char) ∈ gT := gT_mem (i := 870) (by decide +kernel) (by decide +kernel)
theorem ml_L_176 : Cond.methodLink RL 176 yL_markOf ∈ gT := gT_mem (i := 871) (by decide +kernel) (by decide +kernel)
theorem st_yL_markOf : Cond.static yL_markOf ∈ gT := gT_mem (i := 872) (by decide +kernel) (by decide +kernel)
theorem cw_yL_markOf : Cond.codeWith yL_markOf cL_markOf 6 (some FieldType.int) [(0, 12, 15, 32)] ∈ gT := gT_mem (i := 873) (by decide +kernel) (by decide +kernel)
theorem ml_L_86 : Cond.methodLink RL 86 yX5_markOf ∈ gT := gT_mem (i := 874) (by decide +kernel) (by decide +kernel)
theorem im_yX5_markOf : Cond.instanceMethod yX5_markOf ∈ gT := gT_mem (i := 875) (by decide +kernel) (by decide +kernel)
theorem se_yX5_markOf : Cond.selects RX5 yX5_markOf yX5_markOf ∈ gT := gT_mem (i := 876) (by decide +kernel) (by decide +kernel)
theorem cd_yX5_markOf : Cond.code yX5_markOf cX5_markOf 4 (some FieldType.char) ∈ gT := gT_mem (i := 877) (by decide +kernel) (by decide +kernel)
theorem ml_L_184 : Cond.methodLink RL 184 yL_provedShare ∈ gT := gT_mem (i := 878) (by decide +kernel) (by decide +kernel)
theorem st_yL_provedShare : Cond.static yL_provedShare ∈ gT := gT_mem (i := 879) (by decide +kernel) (by decide +kernel)
theorem cw_yL_provedShare : Cond.codeWith yL_provedShare cL_provedShare 3 (some FieldType.int) [(0, 8, 11, 94)] ∈ gT := gT_mem (i := 880) (by decide +kernel) (by decide +kernel)
theorem cl_L_94 : Cond.classLink RL 94 "java/lang/ArithmeticException" ∈ gT := gT_mem (i := 881) (by decide +kernel) (by decide +kernel)
theorem ml_L_90 : Cond.methodLink RL 90 yX5_provedShare ∈ gT := gT_mem (i := 895) (by decide +kernel) (by decide +kernel)
theorem im_yX5_provedShare : Cond.instanceMethod yX5_provedShare ∈ gT := gT_mem (i := 896) (by decide +kernel) (by decide +kernel)
theorem se_yX5_provedShare : Cond.selects RX5 yX5_provedShare yX5_provedShare ∈ gT := gT_mem (i := 897) (by decide +kernel) (by decide +kernel)
theorem cd_yX5_provedShare : Cond.code yX5_provedShare cX5_provedShare 7 (some FieldType.float) ∈ gT := gT_mem (i := 898) (by decide +kernel) (by decide +kernel)
theorem ml_X5_267 : Cond.methodLink RX5 267 yX4_provedCount ∈ gT := gT_mem (i := 899) (by decide +kernel) (by decide +kernel)
theorem im_yX4_provedCount : Cond.instanceMethod yX4_provedCount ∈ gT := gT_mem (i := 900) (by decide +kernel) (by decide +kernel)
theorem se_yX4_provedCount : Cond.selects RX4 yX4_provedCount yX4_provedCount ∈ gT := gT_mem (i := 901) (by decide +kernel) (by decide +kernel)
theorem cd_yX4_provedCount : Cond.code yX4_provedCount cX4_provedCount 3 (some FieldType.int) ∈ gT := gT_mem (i := 902) (by decide +kernel) (by decide +kernel)
theorem ml_X4_120 : Cond.methodLink RX4 120 yX4_markBy ∈ gT := gT_mem (i := 903) (by decide +kernel) (by decide +kernel)
theorem cl_X5_270 : Cond.classLink RX5 270 "java/lang/ArithmeticException" ∈ gT := gT_mem (i := 904) (by decide +kernel) (by decide +kernel)
theorem ml_X5_274 : Cond.methodLink RX5 274 ⟨"java/lang/ArithmeticException", "<init>", "(Ljava/lang/String;)V"⟩ ∈ gT := gT_mem (i := 906) (by decide +kernel) (by decide +kernel)
theorem cl_L_97 : Cond.classLink RL 97 RX6 ∈ gT := gT_mem (i := 907) (by decide +kernel) (by decide +kernel)
theorem ins_X6 : Cond.instantiable RX6 28 ∈ gT := gT_mem (i := 908) (by decide +kernel) (by decide +kernel)
theorem ml_L_99 : Cond.methodLink RL 99 yX6_init ∈ gT := gT_mem (i := 909) (by decide +kernel) (by decide +kernel)
theorem im_yX6_init : Cond.instanceMethod yX6_init ∈ gT := gT_mem (i := 910) (by decide +kernel) (by decide +kernel)
theorem cd_yX6_init : Cond.code yX6_init cX6_init 1 none ∈ gT := gT_mem (i := 911) (by decide +kernel) (by decide +kernel)
theorem ml_X6_1 : Cond.methodLink RX6 1 ⟨"java/lang/Object", "<init>", "()V"⟩ ∈ gT := gT_mem (i := 912) (by decide +kernel) (by decide +kernel)
theorem fl_X6_74 : Cond.fieldLink RX6 74 "DotpressModel" "thrown" "I" ∈ gT := gT_mem (i := 913) (by decide +kernel) (by decide +kernel)
theorem fl_X6_7 : Cond.fieldLink RX6 7 "DotpressModel" "buffer" "[I" ∈ gT := gT_mem (i := 914) (by decide +kernel) (by decide +kernel)
theorem fl_X6_81 : Cond.fieldLink RX6 81 "DotpressModel" "typed" "I" ∈ gT := gT_mem (i := 915) (by decide +kernel) (by decide +kernel)
theorem fl_X6_13 : Cond.fieldLink RX6 13 "DotpressModel" "letters" "[I" ∈ gT := gT_mem (i := 916) (by decide +kernel) (by decide +kernel)
theorem fl_X6_16 : Cond.fieldLink RX6 16 "DotpressModel" "grade" "[I" ∈ gT := gT_mem (i := 917) (by decide +kernel) (by decide +kernel)
theorem fl_X6_19 : Cond.fieldLink RX6 19 "DotpressModel" "first" "[I" ∈ gT := gT_mem (i := 918) (by decide +kernel) (by decide +kernel)
theorem fl_X6_22 : Cond.fieldLink RX6 22 "DotpressModel" "second" "[I" ∈ gT := gT_mem (i := 919) (by decide +kernel) (by decide +kernel)
theorem fl_X6_100 : Cond.fieldLink RX6 100 "DotpressModel" "rules" "I" ∈ gT := gT_mem (i := 920) (by decide +kernel) (by decide +kernel)
theorem fl_X6_25 : Cond.fieldLink RX6 25 "DotpressModel" "exception" "[I" ∈ gT := gT_mem (i := 921) (by decide +kernel) (by decide +kernel)
theorem fl_X6_28 : Cond.fieldLink RX6 28 "DotpressModel" "exceptionLength" "[I" ∈ gT := gT_mem (i := 922) (by decide +kernel) (by decide +kernel)
theorem fl_X6_130 : Cond.fieldLink RX6 130 "DotpressModel" "exceptions" "I" ∈ gT := gT_mem (i := 923) (by decide +kernel) (by decide +kernel)
theorem fl_X6_31 : Cond.fieldLink RX6 31 "DotpressModel" "text" "[I" ∈ gT := gT_mem (i := 924) (by decide +kernel) (by decide +kernel)
theorem fl_X6_34 : Cond.fieldLink RX6 34 "DotpressModel" "textLength" "[I" ∈ gT := gT_mem (i := 925) (by decide +kernel) (by decide +kernel)
theorem fl_X6_37 : Cond.fieldLink RX6 37 "DotpressModel" "textGrade" "[I" ∈ gT := gT_mem (i := 926) (by decide +kernel) (by decide +kernel)
theorem fl_X6_162 : Cond.fieldLink RX6 162 "DotpressModel" "texts" "I" ∈ gT := gT_mem (i := 927) (by decide +kernel) (by decide +kernel)
theorem fl_X6_40 : Cond.fieldLink RX6 40 "DotpressModel" "width" "I" ∈ gT := gT_mem (i := 928) (by decide +kernel) (by decide +kernel)
theorem fl_X6_44 : Cond.fieldLink RX6 44 "DotpressModel" "embossed" "[I" ∈ gT := gT_mem (i := 929) (by decide +kernel) (by decide +kernel)
theorem fl_X6_47 : Cond.fieldLink RX6 47 "DotpressModel" "embossedLength" "[I" ∈ gT := gT_mem (i := 930) (by decide +kernel) (by decide +kernel)
theorem fl_X6_50 : Cond.fieldLink RX6 50 "DotpressModel" "embossedLines" "[I" ∈ gT := gT_mem (i := 931) (by decide +kernel) (by decide +kernel)
theorem fl_X6_53 : Cond.fieldLink RX6 53 "DotpressModel" "marks" "[I" ∈ gT := gT_mem (i := 932) (by decide +kernel) (by decide +kernel)
theorem fl_X6_56 : Cond.fieldLink RX6 56 "DotpressModel" "bears" "I" ∈ gT := gT_mem (i := 933) (by decide +kernel) (by decide +kernel)
theorem fl_X6_59 : Cond.fieldLink RX6 59 "DotpressModel" "strikes" "[I" ∈ gT := gT_mem (i := 934) (by decide +kernel) (by decide +kernel)
theorem fl_X6_62 : Cond.fieldLink RX6 62 "DotpressModel" "word" "[I" ∈ gT := gT_mem (i := 935) (by decide +kernel) (by decide +kernel)
theorem fl_X6_155 : Cond.fieldLink RX6 155 "DotpressModel" "wordCells" "I" ∈ gT := gT_mem (i := 936) (by decide +kernel) (by decide +kernel)
theorem fl_X6_65 : Cond.fieldLink RX6 65 "DotpressModel" "before" "[I" ∈ gT := gT_mem (i := 937) (by decide +kernel) (by decide +kernel)
theorem fl_X6_68 : Cond.fieldLink RX6 68 "DotpressModel" "line" "[I" ∈ gT := gT_mem (i := 938) (by decide +kernel) (by decide +kernel)
theorem fl_X6_71 : Cond.fieldLink RX6 71 "DotpressModel" "lineLength" "[I" ∈ gT := gT_mem (i := 939) (by decide +kernel) (by decide +kernel)
theorem fl_X6_177 : Cond.fieldLink RX6 177 "DotpressModel" "lines" "I" ∈ gT := gT_mem (i := 940) (by decide +kernel) (by decide +kernel)
theorem ml_L_106 : Cond.methodLink RL 106 yX6_thrown ∈ gT := gT_mem (i := 998) (by decide +kernel) (by decide +kernel)
theorem im_yX6_thrown : Cond.instanceMethod yX6_thrown ∈ gT := gT_mem (i := 999) (by decide +kernel) (by decide +kernel)
theorem se_yX6_thrown : Cond.selects RX6 yX6_thrown yX6_thrown ∈ gT := gT_mem (i := 1000) (by decide +kernel) (by decide +kernel)
theorem cd_yX6_thrown : Cond.code yX6_thrown cX6_thrown 1 (some FieldType.int) ∈ gT := gT_mem (i := 1001) (by decide +kernel) (by decide +kernel)
theorem ml_L_105 : Cond.methodLink RL 105 yX6_type ∈ gT := gT_mem (i := 1002) (by decide +kernel) (by decide +kernel)
theorem im_yX6_type : Cond.instanceMethod yX6_type ∈ gT := gT_mem (i := 1003) (by decide +kernel) (by decide +kernel)
theorem se_yX6_type : Cond.selects RX6 yX6_type yX6_type ∈ gT := gT_mem (i := 1004) (by decide +kernel) (by decide +kernel)
theorem cd_yX6_type : Cond.code yX6_type cX6_type 3 (some FieldType.int) ∈ gT := gT_mem (i := 1005) (by decide +kernel) (by decide +kernel)
theorem ml_X6_77 : Cond.methodLink RX6 77 yX6_in ∈ gT := gT_mem (i := 1006) (by decide +kernel) (by decide +kernel)
theorem st_yX6_in : Cond.static yX6_in ∈ gT := gT_mem (i := 1007) (by decide +kernel) (by decide +kernel)
theorem cd_yX6_in : Cond.code yX6_in cX6_in 3 (some FieldType.boolean) ∈ gT := gT_mem (i := 1008) (by decide +kernel) (by decide +kernel)
theorem ml_X6_84 : Cond.methodLink RX6 84 yX6_goesOn ∈ gT := gT_mem (i := 1009) (by decide +kernel) (by decide +kernel)
theorem im_yX6_goesOn : Cond.instanceMethod yX6_goesOn ∈ gT := gT_mem (i := 1011) (by decide +kernel) (by decide +kernel)
theorem cd_yX6_goesOn : Cond.code yX6_goesOn cX6_goesOn 2 (some FieldType.boolean) ∈ gT := gT_mem (i := 1012) (by decide +kernel) (by decide +kernel)
theorem ml_L_113 : Cond.methodLink RL 113 yX6_clear ∈ gT := gT_mem (i := 1013) (by decide +kernel) (by decide +kernel)
theorem im_yX6_clear : Cond.instanceMethod yX6_clear ∈ gT := gT_mem (i := 1014) (by decide +kernel) (by decide +kernel)
theorem se_yX6_clear : Cond.selects RX6 yX6_clear yX6_clear ∈ gT := gT_mem (i := 1015) (by decide +kernel) (by decide +kernel)
theorem cd_yX6_clear : Cond.code yX6_clear cX6_clear 2 (some FieldType.int) ∈ gT := gT_mem (i := 1016) (by decide +kernel) (by decide +kernel)
theorem ml_L_117 : Cond.methodLink RL 117 yX6_addRule ∈ gT := gT_mem (i := 1017) (by decide +kernel) (by decide +kernel)
theorem im_yX6_addRule : Cond.instanceMethod yX6_addRule ∈ gT := gT_mem (i := 1018) (by decide +kernel) (by decide +kernel)
theorem se_yX6_addRule : Cond.selects RX6 yX6_addRule yX6_addRule ∈ gT := gT_mem (i := 1019) (by decide +kernel) (by decide +kernel)
theorem cd_yX6_addRule : Cond.code yX6_addRule cX6_addRule 8 (some FieldType.int) ∈ gT := gT_mem (i := 1020) (by decide +kernel) (by decide +kernel)
theorem ml_X6_103 : Cond.methodLink RX6 103 yX6_ruleLetters ∈ gT := gT_mem (i := 1021) (by decide +kernel) (by decide +kernel)
theorem im_yX6_ruleLetters : Cond.instanceMethod yX6_ruleLetters ∈ gT := gT_mem (i := 1023) (by decide +kernel) (by decide +kernel)
theorem cd_yX6_ruleLetters : Cond.code yX6_ruleLetters cX6_ruleLetters 3 (some FieldType.int) ∈ gT := gT_mem (i := 1024) (by decide +kernel) (by decide +kernel)
theorem ml_X6_88 : Cond.methodLink RX6 88 yX6_hasBlank ∈ gT := gT_mem (i := 1025) (by decide +kernel) (by decide +kernel)
theorem im_yX6_hasBlank : Cond.instanceMethod yX6_hasBlank ∈ gT := gT_mem (i := 1027) (by decide +kernel) (by decide +kernel)
theorem cd_yX6_hasBlank : Cond.code yX6_hasBlank cX6_hasBlank 3 (some FieldType.boolean) ∈ gT := gT_mem (i := 1028) (by decide +kernel) (by decide +kernel)
theorem ml_X6_107 : Cond.methodLink RX6 107 yX6_areFine ∈ gT := gT_mem (i := 1029) (by decide +kernel) (by decide +kernel)
theorem st_yX6_areFine : Cond.static yX6_areFine ∈ gT := gT_mem (i := 1030) (by decide +kernel) (by decide +kernel)
theorem cd_yX6_areFine : Cond.code yX6_areFine cX6_areFine 3 (some FieldType.boolean) ∈ gT := gT_mem (i := 1031) (by decide +kernel) (by decide +kernel)
theorem ml_X6_110 : Cond.methodLink RX6 110 yX6_ruleOf ∈ gT := gT_mem (i := 1032) (by decide +kernel) (by decide +kernel)
theorem im_yX6_ruleOf : Cond.instanceMethod yX6_ruleOf ∈ gT := gT_mem (i := 1034) (by decide +kernel) (by decide +kernel)
theorem cd_yX6_ruleOf : Cond.code yX6_ruleOf cX6_ruleOf 4 (some FieldType.int) ∈ gT := gT_mem (i := 1035) (by decide +kernel) (by decide +kernel)
theorem ml_X6_113 : Cond.methodLink RX6 113 yX6_keepsCells ∈ gT := gT_mem (i := 1036) (by decide +kernel) (by decide +kernel)
theorem im_yX6_keepsCells : Cond.instanceMethod yX6_keepsCells ∈ gT := gT_mem (i := 1038) (by decide +kernel) (by decide +kernel)
theorem cd_yX6_keepsCells : Cond.code yX6_keepsCells cX6_keepsCells 6 none ∈ gT := gT_mem (i := 1039) (by decide +kernel) (by decide +kernel)
theorem ml_X6_165 : Cond.methodLink RX6 165 yX6_wordsOf ∈ gT := gT_mem (i := 1040) (by decide +kernel) (by decide +kernel)
theorem im_yX6_wordsOf : Cond.instanceMethod yX6_wordsOf ∈ gT := gT_mem (i := 1042) (by decide +kernel) (by decide +kernel)
theorem cd_yX6_wordsOf : Cond.code yX6_wordsOf cX6_wordsOf 4 (some FieldType.int) ∈ gT := gT_mem (i := 1043) (by decide +kernel) (by decide +kernel)
theorem ml_X6_139 : Cond.methodLink RX6 139 yX6_isBegin ∈ gT := gT_mem (i := 1044) (by decide +kernel) (by decide +kernel)
theorem im_yX6_isBegin : Cond.instanceMethod yX6_isBegin ∈ gT := gT_mem (i := 1046) (by decide +kernel) (by decide +kernel)
theorem cd_yX6_isBegin : Cond.code yX6_isBegin cX6_isBegin 4 (some FieldType.boolean) ∈ gT := gT_mem (i := 1047) (by decide +kernel) (by decide +kernel)
theorem ml_X6_168 : Cond.methodLink RX6 168 yX6_translates ∈ gT := gT_mem (i := 1048) (by decide +kernel) (by decide +kernel)
theorem im_yX6_translates : Cond.instanceMethod yX6_translates ∈ gT := gT_mem (i := 1050) (by decide +kernel) (by decide +kernel)
theorem cd_yX6_translates : Cond.code yX6_translates cX6_translates 8 none ∈ gT := gT_mem (i := 1051) (by decide +kernel) (by decide +kernel)
theorem ml_X6_146 : Cond.methodLink RX6 146 yX6_beginOf ∈ gT := gT_mem (i := 1052) (by decide +kernel) (by decide +kernel)
theorem im_yX6_beginOf : Cond.instanceMethod yX6_beginOf ∈ gT := gT_mem (i := 1054) (by decide +kernel) (by decide +kernel)
theorem cd_yX6_beginOf : Cond.code yX6_beginOf cX6_beginOf 5 (some FieldType.int) ∈ gT := gT_mem (i := 1055) (by decide +kernel) (by decide +kernel)
theorem ml_X6_149 : Cond.methodLink RX6 149 yX6_letterCount ∈ gT := gT_mem (i := 1056) (by decide +kernel) (by decide +kernel)
theorem im_yX6_letterCount : Cond.instanceMethod yX6_letterCount ∈ gT := gT_mem (i := 1058) (by decide +kernel) (by decide +kernel)
theorem cd_yX6_letterCount : Cond.code yX6_letterCount cX6_letterCount 5 (some FieldType.int) ∈ gT := gT_mem (i := 1059) (by decide +kernel) (by decide +kernel)
theorem ml_X6_152 : Cond.methodLink RX6 152 yX6_isException ∈ gT := gT_mem (i := 1060) (by decide +kernel) (by decide +kernel)
theorem im_yX6_isException : Cond.instanceMethod yX6_isException ∈ gT := gT_mem (i := 1062) (by decide +kernel) (by decide +kernel)
theorem cd_yX6_isException : Cond.code yX6_isException cX6_isException 5 (some FieldType.boolean) ∈ gT := gT_mem (i := 1063) (by decide +kernel) (by decide +kernel)
theorem ml_X6_133 : Cond.methodLink RX6 133 yX6_isThis ∈ gT := gT_mem (i := 1064) (by decide +kernel) (by decide +kernel)
theorem im_yX6_isThis : Cond.instanceMethod yX6_isThis ∈ gT := gT_mem (i := 1066) (by decide +kernel) (by decide +kernel)
theorem cd_yX6_isThis : Cond.code yX6_isThis cX6_isThis 6 (some FieldType.boolean) ∈ gT := gT_mem (i := 1067) (by decide +kernel) (by decide +kernel)
theorem ml_X6_158 : Cond.methodLink RX6 158 yX6_longest ∈ gT := gT_mem (i := 1068) (by decide +kernel) (by decide +kernel)
theorem im_yX6_longest : Cond.instanceMethod yX6_longest ∈ gT := gT_mem (i := 1070) (by decide +kernel) (by decide +kernel)
theorem cd_yX6_longest : Cond.code yX6_longest cX6_longest 8 (some FieldType.int) ∈ gT := gT_mem (i := 1071) (by decide +kernel) (by decide +kernel)
theorem ml_X6_127 : Cond.methodLink RX6 127 yX6_lengthOf ∈ gT := gT_mem (i := 1072) (by decide +kernel) (by decide +kernel)
theorem im_yX6_lengthOf : Cond.instanceMethod yX6_lengthOf ∈ gT := gT_mem (i := 1074) (by decide +kernel) (by decide +kernel)
theorem cd_yX6_lengthOf : Cond.code yX6_lengthOf cX6_lengthOf 4 (some FieldType.int) ∈ gT := gT_mem (i := 1075) (by decide +kernel) (by decide +kernel)
theorem ml_X6_96 : Cond.methodLink RX6 96 yX6_letterOf ∈ gT := gT_mem (i := 1076) (by decide +kernel) (by decide +kernel)
theorem im_yX6_letterOf : Cond.instanceMethod yX6_letterOf ∈ gT := gT_mem (i := 1078) (by decide +kernel) (by decide +kernel)
theorem cd_yX6_letterOf : Cond.code yX6_letterOf cX6_letterOf 3 (some FieldType.int) ∈ gT := gT_mem (i := 1079) (by decide +kernel) (by decide +kernel)
theorem ml_X6_92 : Cond.methodLink RX6 92 yX6_power ∈ gT := gT_mem (i := 1080) (by decide +kernel) (by decide +kernel)
theorem st_yX6_power : Cond.static yX6_power ∈ gT := gT_mem (i := 1081) (by decide +kernel) (by decide +kernel)
theorem cd_yX6_power : Cond.code yX6_power cX6_power 1 (some FieldType.int) ∈ gT := gT_mem (i := 1082) (by decide +kernel) (by decide +kernel)
theorem ml_X6_143 : Cond.methodLink RX6 143 yX6_stands ∈ gT := gT_mem (i := 1083) (by decide +kernel) (by decide +kernel)
theorem im_yX6_stands : Cond.instanceMethod yX6_stands ∈ gT := gT_mem (i := 1085) (by decide +kernel) (by decide +kernel)
theorem cd_yX6_stands : Cond.code yX6_stands cX6_stands 7 (some FieldType.boolean) ∈ gT := gT_mem (i := 1086) (by decide +kernel) (by decide +kernel)
theorem ml_X6_116 : Cond.methodLink RX6 116 yX6_moves ∈ gT := gT_mem (i := 1087) (by decide +kernel) (by decide +kernel)
theorem im_yX6_moves : Cond.instanceMethod yX6_moves ∈ gT := gT_mem (i := 1089) (by decide +kernel) (by decide +kernel)
theorem cd_yX6_moves : Cond.code yX6_moves cX6_moves 3 none ∈ gT := gT_mem (i := 1090) (by decide +kernel) (by decide +kernel)
theorem ml_X6_120 : Cond.methodLink RX6 120 yX6_puts ∈ gT := gT_mem (i := 1091) (by decide +kernel) (by decide +kernel)
theorem im_yX6_puts : Cond.instanceMethod yX6_puts ∈ gT := gT_mem (i := 1093) (by decide +kernel) (by decide +kernel)
theorem cd_yX6_puts : Cond.code yX6_puts cX6_puts 6 none ∈ gT := gT_mem (i := 1094) (by decide +kernel) (by decide +kernel)
theorem ml_X6_124 : Cond.methodLink RX6 124 yX6_textsChanged ∈ gT := gT_mem (i := 1095) (by decide +kernel) (by decide +kernel)
theorem im_yX6_textsChanged : Cond.instanceMethod yX6_textsChanged ∈ gT := gT_mem (i := 1097) (by decide +kernel) (by decide +kernel)
theorem cd_yX6_textsChanged : Cond.code yX6_textsChanged cX6_textsChanged 10 (some FieldType.int) ∈ gT := gT_mem (i := 1098) (by decide +kernel) (by decide +kernel)
theorem ml_L_120 : Cond.methodLink RL 120 yX6_mend ∈ gT := gT_mem (i := 1099) (by decide +kernel) (by decide +kernel)
theorem im_yX6_mend : Cond.instanceMethod yX6_mend ∈ gT := gT_mem (i := 1100) (by decide +kernel) (by decide +kernel)
theorem se_yX6_mend : Cond.selects RX6 yX6_mend yX6_mend ∈ gT := gT_mem (i := 1101) (by decide +kernel) (by decide +kernel)
theorem cd_yX6_mend : Cond.code yX6_mend cX6_mend 6 (some FieldType.int) ∈ gT := gT_mem (i := 1102) (by decide +kernel) (by decide +kernel)
theorem ml_L_124 : Cond.methodLink RL 124 yX6_removeRule ∈ gT := gT_mem (i := 1103) (by decide +kernel) (by decide +kernel)
theorem im_yX6_removeRule : Cond.instanceMethod yX6_removeRule ∈ gT := gT_mem (i := 1104) (by decide +kernel) (by decide +kernel)
theorem se_yX6_removeRule : Cond.selects RX6 yX6_removeRule yX6_removeRule ∈ gT := gT_mem (i := 1105) (by decide +kernel) (by decide +kernel)
theorem cd_yX6_removeRule : Cond.code yX6_removeRule cX6_removeRule 3 (some FieldType.int) ∈ gT := gT_mem (i := 1106) (by decide +kernel) (by decide +kernel)
theorem ml_L_128 : Cond.methodLink RL 128 yX6_ruleAt ∈ gT := gT_mem (i := 1107) (by decide +kernel) (by decide +kernel)
theorem im_yX6_ruleAt : Cond.instanceMethod yX6_ruleAt ∈ gT := gT_mem (i := 1108) (by decide +kernel) (by decide +kernel)
theorem se_yX6_ruleAt : Cond.selects RX6 yX6_ruleAt yX6_ruleAt ∈ gT := gT_mem (i := 1109) (by decide +kernel) (by decide +kernel)
theorem cd_yX6_ruleAt : Cond.code yX6_ruleAt cX6_ruleAt 5 (some FieldType.char) ∈ gT := gT_mem (i := 1110) (by decide +kernel) (by decide +kernel)
theorem ml_L_132 : Cond.methodLink RL 132 yX6_turnException ∈ gT := gT_mem (i := 1111) (by decide +kernel) (by decide +kernel)
theorem im_yX6_turnException : Cond.instanceMethod yX6_turnException ∈ gT := gT_mem (i := 1112) (by decide +kernel) (by decide +kernel)
theorem se_yX6_turnException : Cond.selects RX6 yX6_turnException yX6_turnException ∈ gT := gT_mem (i := 1113) (by decide +kernel) (by decide +kernel)
theorem cd_yX6_turnException : Cond.code yX6_turnException cX6_turnException 4 (some FieldType.boolean) ∈ gT := gT_mem (i := 1114) (by decide +kernel) (by decide +kernel)
theorem ml_X6_136 : Cond.methodLink RX6 136 yX6_exceptionInBuffer ∈ gT := gT_mem (i := 1115) (by decide +kernel) (by decide +kernel)
theorem im_yX6_exceptionInBuffer : Cond.instanceMethod yX6_exceptionInBuffer ∈ gT := gT_mem (i := 1117) (by decide +kernel) (by decide +kernel)
theorem cd_yX6_exceptionInBuffer : Cond.code yX6_exceptionInBuffer cX6_exceptionInBuffer 5 (some FieldType.int) ∈ gT := gT_mem (i := 1118) (by decide +kernel) (by decide +kernel)
theorem ml_L_135 : Cond.methodLink RL 135 yX6_setText ∈ gT := gT_mem (i := 1119) (by decide +kernel) (by decide +kernel)
theorem im_yX6_setText : Cond.instanceMethod yX6_setText ∈ gT := gT_mem (i := 1120) (by decide +kernel) (by decide +kernel)
theorem se_yX6_setText : Cond.selects RX6 yX6_setText yX6_setText ∈ gT := gT_mem (i := 1121) (by decide +kernel) (by decide +kernel)
theorem cd_yX6_setText : Cond.code yX6_setText cX6_setText 5 (some FieldType.int) ∈ gT := gT_mem (i := 1122) (by decide +kernel) (by decide +kernel)
theorem ml_X6_171 : Cond.methodLink RX6 171 yX6_isText ∈ gT := gT_mem (i := 1123) (by decide +kernel) (by decide +kernel)
theorem im_yX6_isText : Cond.instanceMethod yX6_isText ∈ gT := gT_mem (i := 1125) (by decide +kernel) (by decide +kernel)
theorem cd_yX6_isText : Cond.code yX6_isText cX6_isText 2 (some FieldType.boolean) ∈ gT := gT_mem (i := 1126) (by decide +kernel) (by decide +kernel)
theorem ml_L_138 : Cond.methodLink RL 138 yX6_setWidth ∈ gT := gT_mem (i := 1127) (by decide +kernel) (by decide +kernel)
theorem im_yX6_setWidth : Cond.instanceMethod yX6_setWidth ∈ gT := gT_mem (i := 1128) (by decide +kernel) (by decide +kernel)
theorem se_yX6_setWidth : Cond.selects RX6 yX6_setWidth yX6_setWidth ∈ gT := gT_mem (i := 1129) (by decide +kernel) (by decide +kernel)
theorem cd_yX6_setWidth : Cond.code yX6_setWidth cX6_setWidth 3 (some FieldType.int) ∈ gT := gT_mem (i := 1130) (by decide +kernel) (by decide +kernel)
theorem ml_L_141 : Cond.methodLink RL 141 yX6_words ∈ gT := gT_mem (i := 1131) (by decide +kernel) (by decide +kernel)
theorem im_yX6_words : Cond.instanceMethod yX6_words ∈ gT := gT_mem (i := 1132) (by decide +kernel) (by decide +kernel)
theorem se_yX6_words : Cond.selects RX6 yX6_words yX6_words ∈ gT := gT_mem (i := 1133) (by decide +kernel) (by decide +kernel)
theorem cd_yX6_words : Cond.code yX6_words cX6_words 2 (some FieldType.int) ∈ gT := gT_mem (i := 1134) (by decide +kernel) (by decide +kernel)
theorem ml_L_144 : Cond.methodLink RL 144 yX6_length ∈ gT := gT_mem (i := 1135) (by decide +kernel) (by decide +kernel)
theorem im_yX6_length : Cond.instanceMethod yX6_length ∈ gT := gT_mem (i := 1136) (by decide +kernel) (by decide +kernel)
theorem se_yX6_length : Cond.selects RX6 yX6_length yX6_length ∈ gT := gT_mem (i := 1137) (by decide +kernel) (by decide +kernel)
theorem cd_yX6_length : Cond.code yX6_length cX6_length 3 (some FieldType.int) ∈ gT := gT_mem (i := 1138) (by decide +kernel) (by decide +kernel)
theorem ml_X6_174 : Cond.methodLink RX6 174 yX6_isWord ∈ gT := gT_mem (i := 1139) (by decide +kernel) (by decide +kernel)
theorem im_yX6_isWord : Cond.instanceMethod yX6_isWord ∈ gT := gT_mem (i := 1141) (by decide +kernel) (by decide +kernel)
theorem cd_yX6_isWord : Cond.code yX6_isWord cX6_isWord 3 (some FieldType.boolean) ∈ gT := gT_mem (i := 1142) (by decide +kernel) (by decide +kernel)
theorem ml_L_147 : Cond.methodLink RL 147 yX6_cellOf ∈ gT := gT_mem (i := 1143) (by decide +kernel) (by decide +kernel)
theorem im_yX6_cellOf : Cond.instanceMethod yX6_cellOf ∈ gT := gT_mem (i := 1144) (by decide +kernel) (by decide +kernel)
theorem se_yX6_cellOf : Cond.selects RX6 yX6_cellOf yX6_cellOf ∈ gT := gT_mem (i := 1145) (by decide +kernel) (by decide +kernel)
theorem cd_yX6_cellOf : Cond.code yX6_cellOf cX6_cellOf 5 (some FieldType.int) ∈ gT := gT_mem (i := 1146) (by decide +kernel) (by decide +kernel)
theorem ml_L_150 : Cond.methodLink RL 150 yX6_lines ∈ gT := gT_mem (i := 1147) (by decide +kernel) (by decide +kernel)
theorem im_yX6_lines : Cond.instanceMethod yX6_lines ∈ gT := gT_mem (i := 1148) (by decide +kernel) (by decide +kernel)
theorem se_yX6_lines : Cond.selects RX6 yX6_lines yX6_lines ∈ gT := gT_mem (i := 1149) (by decide +kernel) (by decide +kernel)
theorem cd_yX6_lines : Cond.code yX6_lines cX6_lines 3 (some FieldType.int) ∈ gT := gT_mem (i := 1150) (by decide +kernel) (by decide +kernel)
theorem ml_X6_187 : Cond.methodLink RX6 187 yX6_breaks ∈ gT := gT_mem (i := 1151) (by decide +kernel) (by decide +kernel)
theorem im_yX6_breaks : Cond.instanceMethod yX6_breaks ∈ gT := gT_mem (i := 1153) (by decide +kernel) (by decide +kernel)
theorem cd_yX6_breaks : Cond.code yX6_breaks cX6_breaks 8 (some FieldType.int) ∈ gT := gT_mem (i := 1154) (by decide +kernel) (by decide +kernel)
theorem ml_X6_180 : Cond.methodLink RX6 180 yX6_addsCell ∈ gT := gT_mem (i := 1155) (by decide +kernel) (by decide +kernel)
theorem im_yX6_addsCell : Cond.instanceMethod yX6_addsCell ∈ gT := gT_mem (i := 1157) (by decide +kernel) (by decide +kernel)
theorem cd_yX6_addsCell : Cond.code yX6_addsCell cX6_addsCell 2 none ∈ gT := gT_mem (i := 1158) (by decide +kernel) (by decide +kernel)
theorem ml_X6_184 : Cond.methodLink RX6 184 yX6_begins ∈ gT := gT_mem (i := 1159) (by decide +kernel) (by decide +kernel)
theorem im_yX6_begins : Cond.instanceMethod yX6_begins ∈ gT := gT_mem (i := 1161) (by decide +kernel) (by decide +kernel)
theorem cd_yX6_begins : Cond.code yX6_begins cX6_begins 1 none ∈ gT := gT_mem (i := 1162) (by decide +kernel) (by decide +kernel)
theorem ml_L_153 : Cond.methodLink RL 153 yX6_lineAt ∈ gT := gT_mem (i := 1163) (by decide +kernel) (by decide +kernel)
theorem im_yX6_lineAt : Cond.instanceMethod yX6_lineAt ∈ gT := gT_mem (i := 1164) (by decide +kernel) (by decide +kernel)
theorem se_yX6_lineAt : Cond.selects RX6 yX6_lineAt yX6_lineAt ∈ gT := gT_mem (i := 1165) (by decide +kernel) (by decide +kernel)
theorem cd_yX6_lineAt : Cond.code yX6_lineAt cX6_lineAt 7 (some FieldType.int) ∈ gT := gT_mem (i := 1166) (by decide +kernel) (by decide +kernel)
theorem ml_L_156 : Cond.methodLink RL 156 yX6_lineOf ∈ gT := gT_mem (i := 1167) (by decide +kernel) (by decide +kernel)
theorem im_yX6_lineOf : Cond.instanceMethod yX6_lineOf ∈ gT := gT_mem (i := 1168) (by decide +kernel) (by decide +kernel)
theorem se_yX6_lineOf : Cond.selects RX6 yX6_lineOf yX6_lineOf ∈ gT := gT_mem (i := 1169) (by decide +kernel) (by decide +kernel)
theorem cd_yX6_lineOf : Cond.code yX6_lineOf cX6_lineOf 3 (some FieldType.int) ∈ gT := gT_mem (i := 1170) (by decide +kernel) (by decide +kernel)
theorem ml_L_159 : Cond.methodLink RL 159 yX6_emboss ∈ gT := gT_mem (i := 1171) (by decide +kernel) (by decide +kernel)
theorem im_yX6_emboss : Cond.instanceMethod yX6_emboss ∈ gT := gT_mem (i := 1172) (by decide +kernel) (by decide +kernel)
theorem se_yX6_emboss : Cond.selects RX6 yX6_emboss yX6_emboss ∈ gT := gT_mem (i := 1173) (by decide +kernel) (by decide +kernel)
theorem cd_yX6_emboss : Cond.code yX6_emboss cX6_emboss 9 (some FieldType.int) ∈ gT := gT_mem (i := 1174) (by decide +kernel) (by decide +kernel)
theorem ml_X6_196 : Cond.methodLink RX6 196 yX6_isWorn ∈ gT := gT_mem (i := 1175) (by decide +kernel) (by decide +kernel)
theorem im_yX6_isWorn : Cond.instanceMethod yX6_isWorn ∈ gT := gT_mem (i := 1177) (by decide +kernel) (by decide +kernel)
theorem cd_yX6_isWorn : Cond.code yX6_isWorn cX6_isWorn 5 (some FieldType.boolean) ∈ gT := gT_mem (i := 1178) (by decide +kernel) (by decide +kernel)
theorem ml_X6_193 : Cond.methodLink RX6 193 yX6_due ∈ gT := gT_mem (i := 1179) (by decide +kernel) (by decide +kernel)
theorem im_yX6_due : Cond.instanceMethod yX6_due ∈ gT := gT_mem (i := 1181) (by decide +kernel) (by decide +kernel)
theorem cd_yX6_due : Cond.code yX6_due cX6_due 6 (some FieldType.int) ∈ gT := gT_mem (i := 1182) (by decide +kernel) (by decide +kernel)
theorem ml_X6_190 : Cond.methodLink RX6 190 yX6_isEmbossed ∈ gT := gT_mem (i := 1183) (by decide +kernel) (by decide +kernel)
theorem im_yX6_isEmbossed : Cond.instanceMethod yX6_isEmbossed ∈ gT := gT_mem (i := 1185) (by decide +kernel) (by decide +kernel)
theorem cd_yX6_isEmbossed : Cond.code yX6_isEmbossed cX6_isEmbossed 6 (some FieldType.boolean) ∈ gT := gT_mem (i := 1186) (by decide +kernel) (by decide +kernel)
theorem ml_L_162 : Cond.methodLink RL 162 yX6_changed ∈ gT := gT_mem (i := 1187) (by decide +kernel) (by decide +kernel)
theorem im_yX6_changed : Cond.instanceMethod yX6_changed ∈ gT := gT_mem (i := 1188) (by decide +kernel) (by decide +kernel)
theorem se_yX6_changed : Cond.selects RX6 yX6_changed yX6_changed ∈ gT := gT_mem (i := 1189) (by decide +kernel) (by decide +kernel)
theorem cd_yX6_changed : Cond.code yX6_changed cX6_changed 5 (some FieldType.int) ∈ gT := gT_mem (i := 1190) (by decide +kernel) (by decide +kernel)
theorem ml_L_165 : Cond.methodLink RL 165 yX6_setBearing ∈ gT := gT_mem (i := 1191) (by decide +kernel) (by decide +kernel)
theorem im_yX6_setBearing : Cond.instanceMethod yX6_setBearing ∈ gT := gT_mem (i := 1192) (by decide +kernel) (by decide +kernel)
theorem se_yX6_setBearing : Cond.selects RX6 yX6_setBearing yX6_setBearing ∈ gT := gT_mem (i := 1193) (by decide +kernel) (by decide +kernel)
theorem cd_yX6_setBearing : Cond.code yX6_setBearing cX6_setBearing 3 (some FieldType.int) ∈ gT := gT_mem (i := 1194) (by decide +kernel) (by decide +kernel)
theorem ml_L_168 : Cond.methodLink RL 168 yX6_replace ∈ gT := gT_mem (i := 1195) (by decide +kernel) (by decide +kernel)
theorem im_yX6_replace : Cond.instanceMethod yX6_replace ∈ gT := gT_mem (i := 1196) (by decide +kernel) (by decide +kernel)
theorem se_yX6_replace : Cond.selects RX6 yX6_replace yX6_replace ∈ gT := gT_mem (i := 1197) (by decide +kernel) (by decide +kernel)
theorem cd_yX6_replace : Cond.code yX6_replace cX6_replace 3 (some FieldType.int) ∈ gT := gT_mem (i := 1198) (by decide +kernel) (by decide +kernel)
theorem ml_L_171 : Cond.methodLink RL 171 yX6_strikes ∈ gT := gT_mem (i := 1199) (by decide +kernel) (by decide +kernel)
theorem im_yX6_strikes : Cond.instanceMethod yX6_strikes ∈ gT := gT_mem (i := 1200) (by decide +kernel) (by decide +kernel)
theorem se_yX6_strikes : Cond.selects RX6 yX6_strikes yX6_strikes ∈ gT := gT_mem (i := 1201) (by decide +kernel) (by decide +kernel)
theorem cd_yX6_strikes : Cond.code yX6_strikes cX6_strikes 2 (some FieldType.int) ∈ gT := gT_mem (i := 1202) (by decide +kernel) (by decide +kernel)
theorem ml_L_175 : Cond.methodLink RL 175 yX6_mark ∈ gT := gT_mem (i := 1203) (by decide +kernel) (by decide +kernel)
theorem im_yX6_mark : Cond.instanceMethod yX6_mark ∈ gT := gT_mem (i := 1204) (by decide +kernel) (by decide +kernel)
theorem se_yX6_mark : Cond.selects RX6 yX6_mark yX6_mark ∈ gT := gT_mem (i := 1205) (by decide +kernel) (by decide +kernel)
theorem cd_yX6_mark : Cond.code yX6_mark cX6_mark 6 (some FieldType.boolean) ∈ gT := gT_mem (i := 1206) (by decide +kernel) (by decide +kernel)
theorem ml_L_178 : Cond.methodLink RL 178 yX6_markOf ∈ gT := gT_mem (i := 1207) (by decide +kernel) (by decide +kernel)
theorem im_yX6_markOf : Cond.instanceMethod yX6_markOf ∈ gT := gT_mem (i := 1208) (by decide +kernel) (by decide +kernel)
theorem se_yX6_markOf : Cond.selects RX6 yX6_markOf yX6_markOf ∈ gT := gT_mem (i := 1209) (by decide +kernel) (by decide +kernel)
theorem cd_yX6_markOf : Cond.code yX6_markOf cX6_markOf 5 (some FieldType.char) ∈ gT := gT_mem (i := 1210) (by decide +kernel) (by decide +kernel)
theorem ml_L_183 : Cond.methodLink RL 183 yX6_checksum ∈ gT := gT_mem (i := 1211) (by decide +kernel) (by decide +kernel)
theorem im_yX6_checksum : Cond.instanceMethod yX6_checksum ∈ gT := gT_mem (i := 1212) (by decide +kernel) (by decide +kernel)
theorem se_yX6_checksum : Cond.selects RX6 yX6_checksum yX6_checksum ∈ gT := gT_mem (i := 1213) (by decide +kernel) (by decide +kernel)
theorem cd_yX6_checksum : Cond.code yX6_checksum cX6_checksum 7 (some FieldType.long) ∈ gT := gT_mem (i := 1214) (by decide +kernel) (by decide +kernel)
theorem kl_X6_199 : Cond.constantLong RX6 199 31 ∈ gT := gT_mem (i := 1215) (by decide +kernel) (by decide +kernel)
theorem ml_L_187 : Cond.methodLink RL 187 yX6_provedShare ∈ gT := gT_mem (i := 1216) (by decide +kernel) (by decide +kernel)
theorem im_yX6_provedShare : Cond.instanceMethod yX6_provedShare ∈ gT := gT_mem (i := 1217) (by decide +kernel) (by decide +kernel)
theorem se_yX6_provedShare : Cond.selects RX6 yX6_provedShare yX6_provedShare ∈ gT := gT_mem (i := 1218) (by decide +kernel) (by decide +kernel)
theorem cd_yX6_provedShare : Cond.code yX6_provedShare cX6_provedShare 6 (some FieldType.float) ∈ gT := gT_mem (i := 1219) (by decide +kernel) (by decide +kernel)
theorem ml_L_192 : Cond.methodLink RL 192 yX6_meanStrikes ∈ gT := gT_mem (i := 1220) (by decide +kernel) (by decide +kernel)
theorem im_yX6_meanStrikes : Cond.instanceMethod yX6_meanStrikes ∈ gT := gT_mem (i := 1221) (by decide +kernel) (by decide +kernel)
theorem se_yX6_meanStrikes : Cond.selects RX6 yX6_meanStrikes yX6_meanStrikes ∈ gT := gT_mem (i := 1222) (by decide +kernel) (by decide +kernel)
theorem cd_yX6_meanStrikes : Cond.code yX6_meanStrikes cX6_meanStrikes 3 (some FieldType.double) ∈ gT := gT_mem (i := 1223) (by decide +kernel) (by decide +kernel)
theorem kd_X6_201 : Cond.constantDouble RX6 201 4618441417868443648 ∈ gT := gT_mem (i := 1224) (by decide +kernel) (by decide +kernel)
theorem ml_L_196 : Cond.methodLink RL 196 yX6_isSound ∈ gT := gT_mem (i := 1225) (by decide +kernel) (by decide +kernel)
theorem im_yX6_isSound : Cond.instanceMethod yX6_isSound ∈ gT := gT_mem (i := 1226) (by decide +kernel) (by decide +kernel)
theorem se_yX6_isSound : Cond.selects RX6 yX6_isSound yX6_isSound ∈ gT := gT_mem (i := 1227) (by decide +kernel) (by decide +kernel)
theorem cd_yX6_isSound : Cond.code yX6_isSound cX6_isSound 1 (some FieldType.boolean) ∈ gT := gT_mem (i := 1228) (by decide +kernel) (by decide +kernel)
theorem ac_long : Cond.arrayClass .long ∈ gT := gT_mem (i := 1229) (by decide +kernel) (by decide +kernel)
theorem ac_double : Cond.arrayClass .double ∈ gT := gT_mem (i := 1230) (by decide +kernel) (by decide +kernel)
theorem se_yX3_addCells : Cond.selects RX3 yX3_addCells yX3_addCells ∈ gT := gT_mem (i := 3) (by decide +kernel) (by decide +kernel)
theorem se_yX4_beginWord : Cond.selects RX4 yX4_beginWord yX4_beginWord ∈ gT := gT_mem (i := 5) (by decide +kernel) (by decide +kernel)
theorem se_yX4_unmark : Cond.selects RX4 yX4_unmark yX4_unmark ∈ gT := gT_mem (i := 4) (by decide +kernel) (by decide +kernel)
theorem se_yX5_typedKey : Cond.selects RX5 yX5_typedKey yX5_typedKey ∈ gT := gT_mem (i := 1) (by decide +kernel) (by decide +kernel)
theorem se_yX5_textNumbered : Cond.selects RX5 yX5_textNumbered yX5_textNumbered ∈ gT := gT_mem (i := 6) (by decide +kernel) (by decide +kernel)
theorem se_yX5_textWithWord : Cond.selects RX5 yX5_textWithWord yX5_textWithWord ∈ gT := gT_mem (i := 7) (by decide +kernel) (by decide +kernel)
theorem se_yX5_translateTexts : Cond.selects RX5 yX5_translateTexts yX5_translateTexts ∈ gT := gT_mem (i := 2) (by decide +kernel) (by decide +kernel)
theorem se_yX5_planLine : Cond.selects RX5 yX5_planLine yX5_planLine ∈ gT := gT_mem (i := 8) (by decide +kernel) (by decide +kernel)
theorem se_yX6_goesOn : Cond.selects RX6 yX6_goesOn yX6_goesOn ∈ gT := gT_mem (i := 9) (by decide +kernel) (by decide +kernel)
theorem se_yX6_hasBlank : Cond.selects RX6 yX6_hasBlank yX6_hasBlank ∈ gT := gT_mem (i := 11) (by decide +kernel) (by decide +kernel)
theorem se_yX6_ruleLetters : Cond.selects RX6 yX6_ruleLetters yX6_ruleLetters ∈ gT := gT_mem (i := 10) (by decide +kernel) (by decide +kernel)
theorem se_yX6_letterOf : Cond.selects RX6 yX6_letterOf yX6_letterOf ∈ gT := gT_mem (i := 23) (by decide +kernel) (by decide +kernel)
theorem se_yX6_lengthOf : Cond.selects RX6 yX6_lengthOf yX6_lengthOf ∈ gT := gT_mem (i := 22) (by decide +kernel) (by decide +kernel)
theorem se_yX6_ruleOf : Cond.selects RX6 yX6_ruleOf yX6_ruleOf ∈ gT := gT_mem (i := 12) (by decide +kernel) (by decide +kernel)
theorem se_yX6_moves : Cond.selects RX6 yX6_moves yX6_moves ∈ gT := gT_mem (i := 25) (by decide +kernel) (by decide +kernel)
theorem se_yX6_puts : Cond.selects RX6 yX6_puts yX6_puts ∈ gT := gT_mem (i := 26) (by decide +kernel) (by decide +kernel)
theorem se_yX6_isThis : Cond.selects RX6 yX6_isThis yX6_isThis ∈ gT := gT_mem (i := 20) (by decide +kernel) (by decide +kernel)
theorem se_yX6_isException : Cond.selects RX6 yX6_isException yX6_isException ∈ gT := gT_mem (i := 19) (by decide +kernel) (by decide +kernel)
theorem se_yX6_exceptionInBuffer : Cond.selects RX6 yX6_exceptionInBuffer yX6_exceptionInBuffer ∈ gT := gT_mem (i := 28) (by decide +kernel) (by decide +kernel)
theorem se_yX6_isBegin : Cond.selects RX6 yX6_isBegin yX6_isBegin ∈ gT := gT_mem (i := 15) (by decide +kernel) (by decide +kernel)
theorem se_yX6_wordsOf : Cond.selects RX6 yX6_wordsOf yX6_wordsOf ∈ gT := gT_mem (i := 14) (by decide +kernel) (by decide +kernel)
theorem se_yX6_beginOf : Cond.selects RX6 yX6_beginOf yX6_beginOf ∈ gT := gT_mem (i := 17) (by decide +kernel) (by decide +kernel)
theorem se_yX6_letterCount : Cond.selects RX6 yX6_letterCount yX6_letterCount ∈ gT := gT_mem (i := 18) (by decide +kernel) (by decide +kernel)
theorem se_yX6_stands : Cond.selects RX6 yX6_stands yX6_stands ∈ gT := gT_mem (i := 24) (by decide +kernel) (by decide +kernel)
theorem se_yX6_longest : Cond.selects RX6 yX6_longest yX6_longest ∈ gT := gT_mem (i := 21) (by decide +kernel) (by decide +kernel)
theorem se_yX6_translates : Cond.selects RX6 yX6_translates yX6_translates ∈ gT := gT_mem (i := 16) (by decide +kernel) (by decide +kernel)
theorem se_yX6_keepsCells : Cond.selects RX6 yX6_keepsCells yX6_keepsCells ∈ gT := gT_mem (i := 13) (by decide +kernel) (by decide +kernel)
theorem se_yX6_textsChanged : Cond.selects RX6 yX6_textsChanged yX6_textsChanged ∈ gT := gT_mem (i := 27) (by decide +kernel) (by decide +kernel)
theorem se_yX6_isText : Cond.selects RX6 yX6_isText yX6_isText ∈ gT := gT_mem (i := 29) (by decide +kernel) (by decide +kernel)
theorem se_yX6_isWord : Cond.selects RX6 yX6_isWord yX6_isWord ∈ gT := gT_mem (i := 30) (by decide +kernel) (by decide +kernel)
theorem se_yX6_addsCell : Cond.selects RX6 yX6_addsCell yX6_addsCell ∈ gT := gT_mem (i := 32) (by decide +kernel) (by decide +kernel)
theorem se_yX6_begins : Cond.selects RX6 yX6_begins yX6_begins ∈ gT := gT_mem (i := 33) (by decide +kernel) (by decide +kernel)
theorem se_yX6_breaks : Cond.selects RX6 yX6_breaks yX6_breaks ∈ gT := gT_mem (i := 31) (by decide +kernel) (by decide +kernel)
theorem se_yX6_isEmbossed : Cond.selects RX6 yX6_isEmbossed yX6_isEmbossed ∈ gT := gT_mem (i := 36) (by decide +kernel) (by decide +kernel)
theorem se_yX6_due : Cond.selects RX6 yX6_due yX6_due ∈ gT := gT_mem (i := 35) (by decide +kernel) (by decide +kernel)
theorem se_yX6_isWorn : Cond.selects RX6 yX6_isWorn yX6_isWorn ∈ gT := gT_mem (i := 34) (by decide +kernel) (by decide +kernel)
theorem lay_X0 : ∀ w ∈ wsX00, w ∈ gT := by decide +kernel
theorem lay_X1 : ∀ w ∈ wsX10, w ∈ gT := by decide +kernel
theorem lay_X2 : ∀ w ∈ wsX20, w ∈ gT := by decide +kernel
theorem lay_X3 : ∀ w ∈ wsX30, w ∈ gT := by decide +kernel
theorem lay_X4 : ∀ w ∈ wsX40, w ∈ gT := by decide +kernel
theorem lay_X5 : ∀ w ∈ wsX50, w ∈ gT := by decide +kernel
theorem lay_X6 : ∀ w ∈ wsX60, w ∈ gT := by decide +kernel
end
section
theorem dX2_init_0 : decode cX2_init 0 = .ok (.aload_n 0, 1) := by decide +kernel
theorem dX2_init_1 : decode cX2_init 1 = .ok (.invokespecial 3, 3) := by decide +kernel
theorem dX2_init_4 : decode cX2_init 4 = .ok (.aload_n 0, 1) := by decide +kernel
theorem dX2_init_5 : decode cX2_init 5 = .ok (.iconst 0, 1) := by decide +kernel
theorem dX2_init_6 : decode cX2_init 6 = .ok (.putfield 9, 3) := by decide +kernel
theorem dX2_init_9 : decode cX2_init 9 = .ok (.aload_n 0, 1) := by decide +kernel
theorem dX2_init_10 : decode cX2_init 10 = .ok (.iload_n 1, 1) := by decide +kernel
theorem dX2_init_11 : decode cX2_init 11 = .ok (.ifCond .ge 7, 3) := by decide +kernel
theorem dX2_init_14 : decode cX2_init 14 = .ok (.iconst 0, 1) := by decide +kernel
theorem dX2_init_15 : decode cX2_init 15 = .ok (.goto 4, 3) := by decide +kernel
theorem dX2_init_18 : decode cX2_init 18 = .ok (.iload_n 1, 1) := by decide +kernel
theorem dX2_init_19 : decode cX2_init 19 = .ok (.newarray .int, 2) := by decide +kernel
theorem dX2_init_21 : decode cX2_init 21 = .ok (.putfield 15, 3) := by decide +kernel
theorem dX2_init_24 : decode cX2_init 24 = .ok (.return_, 1) := by decide +kernel
theorem dX2_count_0 : decode cX2_count 0 = .ok (.aload_n 0, 1) := by decide +kernel
theorem dX2_count_1 : decode cX2_count 1 = .ok (.getfield 9, 3) := by decide +kernel
theorem dX2_count_4 : decode cX2_count 4 = .ok (.ireturn, 1) := by decide +kernel
theorem dX2_isFull_0 : decode cX2_isFull 0 = .ok (.aload_n 0, 1) := by decide +kernel
theorem dX2_isFull_1 : decode cX2_isFull 1 = .ok (.getfield 9, 3) := by decide +kernel
theorem dX2_isFull_4 : decode cX2_isFull 4 = .ok (.aload_n 0, 1) := by decide +kernel
theorem dX2_isFull_5 : decode cX2_isFull 5 = .ok (.getfield 15, 3) := by decide +kernel
theorem dX2_isFull_8 : decode cX2_isFull 8 = .ok (.arraylength, 1) := by decide +kernel
theorem dX2_isFull_9 : decode cX2_isFull 9 = .ok (.if_icmp .lt 7, 3) := by decide +kernel
theorem dX2_isFull_12 : decode cX2_isFull 12 = .ok (.iconst 1, 1) := by decide +kernel
theorem dX2_isFull_13 : decode cX2_isFull 13 = .ok (.goto 4, 3) := by decide +kernel
theorem dX2_isFull_16 : decode cX2_isFull 16 = .ok (.iconst 0, 1) := by decide +kernel
theorem dX2_isFull_17 : decode cX2_isFull 17 = .ok (.ireturn, 1) := by decide +kernel
theorem dX2_get_0 : decode cX2_get 0 = .ok (.iload_n 1, 1) := by decide +kernel
theorem dX2_get_1 : decode cX2_get 1 = .ok (.ifCond .lt 11, 3) := by decide +kernel
theorem dX2_get_4 : decode cX2_get 4 = .ok (.iload_n 1, 1) := by decide +kernel
theorem dX2_get_5 : decode cX2_get 5 = .ok (.aload_n 0, 1) := by decide +kernel
theorem dX2_get_6 : decode cX2_get 6 = .ok (.getfield 9, 3) := by decide +kernel
theorem dX2_get_9 : decode cX2_get 9 = .ok (.if_icmp .lt 7, 3) := by decide +kernel
theorem dX2_get_12 : decode cX2_get 12 = .ok (.iconst 0, 1) := by decide +kernel
theorem dX2_get_13 : decode cX2_get 13 = .ok (.goto 9, 3) := by decide +kernel
theorem dX2_get_16 : decode cX2_get 16 = .ok (.aload_n 0, 1) := by decide +kernel
theorem dX2_get_17 : decode cX2_get 17 = .ok (.getfield 15, 3) := by decide +kernel
theorem dX2_get_20 : decode cX2_get 20 = .ok (.iload_n 1, 1) := by decide +kernel
theorem dX2_get_21 : decode cX2_get 21 = .ok (.iaload, 1) := by decide +kernel
theorem dX2_get_22 : decode cX2_get 22 = .ok (.ireturn, 1) := by decide +kernel
theorem dX2_set_0 : decode cX2_set 0 = .ok (.iload_n 1, 1) := by decide +kernel
theorem dX2_set_1 : decode cX2_set 1 = .ok (.ifCond .lt 18, 3) := by decide +kernel
theorem dX2_set_4 : decode cX2_set 4 = .ok (.iload_n 1, 1) := by decide +kernel
theorem dX2_set_5 : decode cX2_set 5 = .ok (.aload_n 0, 1) := by decide +kernel
theorem dX2_set_6 : decode cX2_set 6 = .ok (.getfield 9, 3) := by decide +kernel
theorem dX2_set_9 : decode cX2_set 9 = .ok (.if_icmp .ge 10, 3) := by decide +kernel
theorem dX2_set_12 : decode cX2_set 12 = .ok (.aload_n 0, 1) := by decide +kernel
theorem dX2_set_13 : decode cX2_set 13 = .ok (.getfield 15, 3) := by decide +kernel
theorem dX2_set_16 : decode cX2_set 16 = .ok (.iload_n 1, 1) := by decide +kernel
theorem dX2_set_17 : decode cX2_set 17 = .ok (.iload_n 2, 1) := by decide +kernel
theorem dX2_set_18 : decode cX2_set 18 = .ok (.iastore, 1) := by decide +kernel
theorem dX2_set_19 : decode cX2_set 19 = .ok (.return_, 1) := by decide +kernel
theorem dX2_add_0 : decode cX2_add 0 = .ok (.aload_n 0, 1) := by decide +kernel
theorem dX2_add_1 : decode cX2_add 1 = .ok (.getfield 9, 3) := by decide +kernel
theorem dX2_add_4 : decode cX2_add 4 = .ok (.aload_n 0, 1) := by decide +kernel
theorem dX2_add_5 : decode cX2_add 5 = .ok (.getfield 15, 3) := by decide +kernel
theorem dX2_add_8 : decode cX2_add 8 = .ok (.arraylength, 1) := by decide +kernel
theorem dX2_add_9 : decode cX2_add 9 = .ok (.if_icmp .ge 23, 3) := by decide +kernel
theorem dX2_add_12 : decode cX2_add 12 = .ok (.aload_n 0, 1) := by decide +kernel
theorem dX2_add_13 : decode cX2_add 13 = .ok (.getfield 15, 3) := by decide +kernel
theorem dX2_add_16 : decode cX2_add 16 = .ok (.aload_n 0, 1) := by decide +kernel
theorem dX2_add_17 : decode cX2_add 17 = .ok (.getfield 9, 3) := by decide +kernel
theorem dX2_add_20 : decode cX2_add 20 = .ok (.iload_n 1, 1) := by decide +kernel
theorem dX2_add_21 : decode cX2_add 21 = .ok (.iastore, 1) := by decide +kernel
theorem dX2_add_22 : decode cX2_add 22 = .ok (.aload_n 0, 1) := by decide +kernel
theorem dX2_add_23 : decode cX2_add 23 = .ok (.dup, 1) := by decide +kernel
theorem dX2_add_24 : decode cX2_add 24 = .ok (.getfield 9, 3) := by decide +kernel
theorem dX2_add_27 : decode cX2_add 27 = .ok (.iconst 1, 1) := by decide +kernel
theorem dX2_add_28 : decode cX2_add 28 = .ok (.iadd, 1) := by decide +kernel
theorem dX2_add_29 : decode cX2_add 29 = .ok (.putfield 9, 3) := by decide +kernel
theorem dX2_add_32 : decode cX2_add 32 = .ok (.return_, 1) := by decide +kernel
theorem dX2_insert_0 : decode cX2_insert 0 = .ok (.iload_n 1, 1) := by decide +kernel
theorem dX2_insert_1 : decode cX2_insert 1 = .ok (.ifCond .lt 61, 3) := by decide +kernel
theorem dX2_insert_4 : decode cX2_insert 4 = .ok (.iload_n 1, 1) := by decide +kernel
theorem dX2_insert_5 : decode cX2_insert 5 = .ok (.aload_n 0, 1) := by decide +kernel
theorem dX2_insert_6 : decode cX2_insert 6 = .ok (.getfield 9, 3) := by decide +kernel
theorem dX2_insert_9 : decode cX2_insert 9 = .ok (.if_icmp .gt 53, 3) := by decide +kernel
theorem dX2_insert_12 : decode cX2_insert 12 = .ok (.aload_n 0, 1) := by decide +kernel
theorem dX2_insert_13 : decode cX2_insert 13 = .ok (.getfield 9, 3) := by decide +kernel
theorem dX2_insert_16 : decode cX2_insert 16 = .ok (.aload_n 0, 1) := by decide +kernel
theorem dX2_insert_17 : decode cX2_insert 17 = .ok (.getfield 15, 3) := by decide +kernel
theorem dX2_insert_20 : decode cX2_insert 20 = .ok (.arraylength, 1) := by decide +kernel
theorem dX2_insert_21 : decode cX2_insert 21 = .ok (.if_icmp .ge 41, 3) := by decide +kernel
theorem dX2_insert_24 : decode cX2_insert 24 = .ok (.aload_n 0, 1) := by decide +kernel
theorem dX2_insert_25 : decode cX2_insert 25 = .ok (.getfield 15, 3) := by decide +kernel
theorem dX2_insert_28 : decode cX2_insert 28 = .ok (.iload_n 1, 1) := by decide +kernel
theorem dX2_insert_29 : decode cX2_insert 29 = .ok (.aload_n 0, 1) := by decide +kernel
theorem dX2_insert_30 : decode cX2_insert 30 = .ok (.getfield 15, 3) := by decide +kernel
theorem dX2_insert_33 : decode cX2_insert 33 = .ok (.iload_n 1, 1) := by decide +kernel
theorem dX2_insert_34 : decode cX2_insert 34 = .ok (.iconst 1, 1) := by decide +kernel
theorem dX2_insert_35 : decode cX2_insert 35 = .ok (.iadd, 1) := by decide +kernel
theorem dX2_insert_36 : decode cX2_insert 36 = .ok (.aload_n 0, 1) := by decide +kernel
theorem dX2_insert_37 : decode cX2_insert 37 = .ok (.getfield 9, 3) := by decide +kernel
theorem dX2_insert_40 : decode cX2_insert 40 = .ok (.iload_n 1, 1) := by decide +kernel
theorem dX2_insert_41 : decode cX2_insert 41 = .ok (.isub, 1) := by decide +kernel
theorem dX2_insert_42 : decode cX2_insert 42 = .ok (.invokestatic 19, 3) := by decide +kernel
theorem dX2_insert_45 : decode cX2_insert 45 = .ok (.aload_n 0, 1) := by decide +kernel
theorem dX2_insert_46 : decode cX2_insert 46 = .ok (.getfield 15, 3) := by decide +kernel
theorem dX2_insert_49 : decode cX2_insert 49 = .ok (.iload_n 1, 1) := by decide +kernel
theorem dX2_insert_50 : decode cX2_insert 50 = .ok (.iload_n 2, 1) := by decide +kernel
theorem dX2_insert_51 : decode cX2_insert 51 = .ok (.iastore, 1) := by decide +kernel
theorem dX2_insert_52 : decode cX2_insert 52 = .ok (.aload_n 0, 1) := by decide +kernel
theorem dX2_insert_53 : decode cX2_insert 53 = .ok (.dup, 1) := by decide +kernel
theorem dX2_insert_54 : decode cX2_insert 54 = .ok (.getfield 9, 3) := by decide +kernel
theorem dX2_insert_57 : decode cX2_insert 57 = .ok (.iconst 1, 1) := by decide +kernel
theorem dX2_insert_58 : decode cX2_insert 58 = .ok (.iadd, 1) := by decide +kernel
theorem dX2_insert_59 : decode cX2_insert 59 = .ok (.putfield 9, 3) := by decide +kernel
theorem dX2_insert_62 : decode cX2_insert 62 = .ok (.return_, 1) := by decide +kernel
theorem dX2_remove_0 : decode cX2_remove 0 = .ok (.iload_n 1, 1) := by decide +kernel
theorem dX2_remove_1 : decode cX2_remove 1 = .ok (.ifCond .lt 42, 3) := by decide +kernel
theorem dX2_remove_4 : decode cX2_remove 4 = .ok (.iload_n 1, 1) := by decide +kernel
theorem dX2_remove_5 : decode cX2_remove 5 = .ok (.aload_n 0, 1) := by decide +kernel
theorem dX2_remove_6 : decode cX2_remove 6 = .ok (.getfield 9, 3) := by decide +kernel
theorem dX2_remove_9 : decode cX2_remove 9 = .ok (.if_icmp .ge 34, 3) := by decide +kernel
theorem dX2_remove_12 : decode cX2_remove 12 = .ok (.aload_n 0, 1) := by decide +kernel
theorem dX2_remove_13 : decode cX2_remove 13 = .ok (.dup, 1) := by decide +kernel
theorem dX2_remove_14 : decode cX2_remove 14 = .ok (.getfield 9, 3) := by decide +kernel
theorem dX2_remove_17 : decode cX2_remove 17 = .ok (.iconst 1, 1) := by decide +kernel
theorem dX2_remove_18 : decode cX2_remove 18 = .ok (.isub, 1) := by decide +kernel
theorem dX2_remove_19 : decode cX2_remove 19 = .ok (.putfield 9, 3) := by decide +kernel
theorem dX2_remove_22 : decode cX2_remove 22 = .ok (.aload_n 0, 1) := by decide +kernel
theorem dX2_remove_23 : decode cX2_remove 23 = .ok (.getfield 15, 3) := by decide +kernel
theorem dX2_remove_26 : decode cX2_remove 26 = .ok (.iload_n 1, 1) := by decide +kernel
theorem dX2_remove_27 : decode cX2_remove 27 = .ok (.iconst 1, 1) := by decide +kernel
theorem dX2_remove_28 : decode cX2_remove 28 = .ok (.iadd, 1) := by decide +kernel
theorem dX2_remove_29 : decode cX2_remove 29 = .ok (.aload_n 0, 1) := by decide +kernel
theorem dX2_remove_30 : decode cX2_remove 30 = .ok (.getfield 15, 3) := by decide +kernel
theorem dX2_remove_33 : decode cX2_remove 33 = .ok (.iload_n 1, 1) := by decide +kernel
theorem dX2_remove_34 : decode cX2_remove 34 = .ok (.aload_n 0, 1) := by decide +kernel
theorem dX2_remove_35 : decode cX2_remove 35 = .ok (.getfield 9, 3) := by decide +kernel
theorem dX2_remove_38 : decode cX2_remove 38 = .ok (.iload_n 1, 1) := by decide +kernel
theorem dX2_remove_39 : decode cX2_remove 39 = .ok (.isub, 1) := by decide +kernel
theorem dX2_remove_40 : decode cX2_remove 40 = .ok (.invokestatic 19, 3) := by decide +kernel
theorem dX2_remove_43 : decode cX2_remove 43 = .ok (.return_, 1) := by decide +kernel
theorem dX2_empty_0 : decode cX2_empty 0 = .ok (.aload_n 0, 1) := by decide +kernel
theorem dX2_empty_1 : decode cX2_empty 1 = .ok (.iconst 0, 1) := by decide +kernel
theorem dX2_empty_2 : decode cX2_empty 2 = .ok (.putfield 9, 3) := by decide +kernel
theorem dX2_empty_5 : decode cX2_empty 5 = .ok (.return_, 1) := by decide +kernel
theorem dX2_placeOf_0 : decode cX2_placeOf 0 = .ok (.iconst 0, 1) := by decide +kernel
theorem dX2_placeOf_1 : decode cX2_placeOf 1 = .ok (.istore_n 2, 1) := by decide +kernel
theorem dX2_placeOf_2 : decode cX2_placeOf 2 = .ok (.iload_n 2, 1) := by decide +kernel
theorem dX2_placeOf_3 : decode cX2_placeOf 3 = .ok (.aload_n 0, 1) := by decide +kernel
theorem dX2_placeOf_4 : decode cX2_placeOf 4 = .ok (.getfield 9, 3) := by decide +kernel
theorem dX2_placeOf_7 : decode cX2_placeOf 7 = .ok (.if_icmp .ge 20, 3) := by decide +kernel
theorem dX2_placeOf_10 : decode cX2_placeOf 10 = .ok (.aload_n 0, 1) := by decide +kernel
theorem dX2_placeOf_11 : decode cX2_placeOf 11 = .ok (.iload_n 2, 1) := by decide +kernel
theorem dX2_placeOf_12 : decode cX2_placeOf 12 = .ok (.invokevirtual 25, 3) := by decide +kernel
theorem dX2_placeOf_15 : decode cX2_placeOf 15 = .ok (.iload_n 1, 1) := by decide +kernel
theorem dX2_placeOf_16 : decode cX2_placeOf 16 = .ok (.if_icmp .ne 5, 3) := by decide +kernel
theorem dX2_placeOf_19 : decode cX2_placeOf 19 = .ok (.iload_n 2, 1) := by decide +kernel
theorem dX2_placeOf_20 : decode cX2_placeOf 20 = .ok (.ireturn, 1) := by decide +kernel
theorem dX2_placeOf_21 : decode cX2_placeOf 21 = .ok (.iinc 2 1, 3) := by decide +kernel
theorem dX2_placeOf_24 : decode cX2_placeOf 24 = .ok (.goto (-22), 3) := by decide +kernel
theorem dX2_placeOf_27 : decode cX2_placeOf 27 = .ok (.iconst (-1), 1) := by decide +kernel
theorem dX2_placeOf_28 : decode cX2_placeOf 28 = .ok (.ireturn, 1) := by decide +kernel
theorem dX2_takeOver_0 : decode cX2_takeOver 0 = .ok (.aload_n 0, 1) := by decide +kernel
theorem dX2_takeOver_1 : decode cX2_takeOver 1 = .ok (.invokevirtual 29, 3) := by decide +kernel
theorem dX2_takeOver_4 : decode cX2_takeOver 4 = .ok (.iconst 0, 1) := by decide +kernel
theorem dX2_takeOver_5 : decode cX2_takeOver 5 = .ok (.istore_n 2, 1) := by decide +kernel
theorem dX2_takeOver_6 : decode cX2_takeOver 6 = .ok (.iload_n 2, 1) := by decide +kernel
theorem dX2_takeOver_7 : decode cX2_takeOver 7 = .ok (.aload_n 1, 1) := by decide +kernel
theorem dX2_takeOver_8 : decode cX2_takeOver 8 = .ok (.invokevirtual 32, 3) := by decide +kernel
theorem dX2_takeOver_11 : decode cX2_takeOver 11 = .ok (.if_icmp .ge 18, 3) := by decide +kernel
theorem dX2_takeOver_14 : decode cX2_takeOver 14 = .ok (.aload_n 0, 1) := by decide +kernel
theorem dX2_takeOver_15 : decode cX2_takeOver 15 = .ok (.aload_n 1, 1) := by decide +kernel
theorem dX2_takeOver_16 : decode cX2_takeOver 16 = .ok (.iload_n 2, 1) := by decide +kernel
theorem dX2_takeOver_17 : decode cX2_takeOver 17 = .ok (.invokevirtual 25, 3) := by decide +kernel
theorem dX2_takeOver_20 : decode cX2_takeOver 20 = .ok (.invokevirtual 35, 3) := by decide +kernel
theorem dX2_takeOver_23 : decode cX2_takeOver 23 = .ok (.iinc 2 1, 3) := by decide +kernel
theorem dX2_takeOver_26 : decode cX2_takeOver 26 = .ok (.goto (-20), 3) := by decide +kernel
theorem dX2_takeOver_29 : decode cX2_takeOver 29 = .ok (.return_, 1) := by decide +kernel
theorem dL_law_0 : decode cL_law 0 = .ok (.new 8, 3) := by decide +kernel
theorem dL_law_3 : decode cL_law 3 = .ok (.dup, 1) := by decide +kernel
theorem dL_law_4 : decode cL_law 4 = .ok (.invokespecial 96, 3) := by decide +kernel
theorem dL_law_7 : decode cL_law 7 = .ok (.astore_n 1, 1) := by decide +kernel
theorem dL_law_8 : decode cL_law 8 = .ok (.new 97, 3) := by decide +kernel
theorem dL_law_11 : decode cL_law 11 = .ok (.dup, 1) := by decide +kernel
theorem dL_law_12 : decode cL_law 12 = .ok (.invokespecial 99, 3) := by decide +kernel
theorem dL_law_15 : decode cL_law 15 = .ok (.astore_n 2, 1) := by decide +kernel
theorem dL_law_16 : decode cL_law 16 = .ok (.iconst 1, 1) := by decide +kernel
theorem dL_law_17 : decode cL_law 17 = .ok (.newarray .long, 2) := by decide +kernel
theorem dL_law_19 : decode cL_law 19 = .ok (.astore_n 3, 1) := by decide +kernel
theorem dL_law_20 : decode cL_law 20 = .ok (.iconst 1, 1) := by decide +kernel
theorem dL_law_21 : decode cL_law 21 = .ok (.newarray .double, 2) := by decide +kernel
theorem dL_law_23 : decode cL_law 23 = .ok (.astore 4, 2) := by decide +kernel
theorem dL_law_25 : decode cL_law 25 = .ok (.iconst 0, 1) := by decide +kernel
theorem dL_law_26 : decode cL_law 26 = .ok (.istore 5, 2) := by decide +kernel
theorem dL_law_28 : decode cL_law 28 = .ok (.iload 5, 2) := by decide +kernel
theorem dL_law_30 : decode cL_law 30 = .ok (.aload_n 0, 1) := by decide +kernel
theorem dL_law_31 : decode cL_law 31 = .ok (.arraylength, 1) := by decide +kernel
theorem dL_law_32 : decode cL_law 32 = .ok (.iconst 5, 1) := by decide +kernel
theorem dL_law_33 : decode cL_law 33 = .ok (.isub, 1) := by decide +kernel
theorem dL_law_34 : decode cL_law 34 = .ok (.if_icmp .gt 1683, 3) := by decide +kernel
theorem dL_law_37 : decode cL_law 37 = .ok (.aload_n 0, 1) := by decide +kernel
theorem dL_law_38 : decode cL_law 38 = .ok (.iload 5, 2) := by decide +kernel
theorem dL_law_40 : decode cL_law 40 = .ok (.iaload, 1) := by decide +kernel
theorem dL_law_41 : decode cL_law 41 = .ok (.bipush 31, 2) := by decide +kernel
theorem dL_law_43 : decode cL_law 43 = .ok (.iand, 1) := by decide +kernel
theorem dL_law_44 : decode cL_law 44 = .ok (.tableswitch 1667 0 25 #[120, 178, 191, 271, 351, 407, 475, 526, 594, 650, 706, 774, 854, 910, 990, 1058, 1114, 1170, 1226, 1282, 1338, 1453, 1533, 1547, 1613, 1654], 120) := by decide +kernel
theorem dL_law_164 : decode cL_law 164 = .ok (.aload_n 1, 1) := by decide +kernel
theorem dL_law_165 : decode cL_law 165 = .ok (.aload_n 0, 1) := by decide +kernel
theorem dL_law_166 : decode cL_law 166 = .ok (.iload 5, 2) := by decide +kernel
theorem dL_law_168 : decode cL_law 168 = .ok (.iconst 1, 1) := by decide +kernel
theorem dL_law_169 : decode cL_law 169 = .ok (.iadd, 1) := by decide +kernel
theorem dL_law_170 : decode cL_law 170 = .ok (.iaload, 1) := by decide +kernel
theorem dL_law_171 : decode cL_law 171 = .ok (.i2c, 1) := by decide +kernel
theorem dL_law_172 : decode cL_law 172 = .ok (.aload_n 3, 1) := by decide +kernel
theorem dL_law_173 : decode cL_law 173 = .ok (.invokestatic 100, 3) := by decide +kernel
theorem dL_law_176 : decode cL_law 176 = .ok (.istore 6, 2) := by decide +kernel
theorem dL_law_178 : decode cL_law 178 = .ok (.aload_n 2, 1) := by decide +kernel
theorem dL_law_179 : decode cL_law 179 = .ok (.aload_n 0, 1) := by decide +kernel
theorem dL_law_180 : decode cL_law 180 = .ok (.iload 5, 2) := by decide +kernel
theorem dL_law_182 : decode cL_law 182 = .ok (.iconst 1, 1) := by decide +kernel
theorem dL_law_183 : decode cL_law 183 = .ok (.iadd, 1) := by decide +kernel
theorem dL_law_184 : decode cL_law 184 = .ok (.iaload, 1) := by decide +kernel
theorem dL_law_185 : decode cL_law 185 = .ok (.i2c, 1) := by decide +kernel
theorem dL_law_186 : decode cL_law 186 = .ok (.invokevirtual 105, 3) := by decide +kernel
theorem dL_law_189 : decode cL_law 189 = .ok (.istore 7, 2) := by decide +kernel
theorem dL_law_191 : decode cL_law 191 = .ok (.aload_n 2, 1) := by decide +kernel
theorem dL_law_192 : decode cL_law 192 = .ok (.invokevirtual 106, 3) := by decide +kernel
theorem dL_law_195 : decode cL_law 195 = .ok (.iload 6, 2) := by decide +kernel
theorem dL_law_197 : decode cL_law 197 = .ok (.if_icmp .eq 5, 3) := by decide +kernel
theorem dL_law_200 : decode cL_law 200 = .ok (.iconst 0, 1) := by decide +kernel
theorem dL_law_201 : decode cL_law 201 = .ok (.ireturn, 1) := by decide +kernel
theorem dL_law_202 : decode cL_law 202 = .ok (.iload 6, 2) := by decide +kernel
theorem dL_law_204 : decode cL_law 204 = .ok (.ifCond .ne 15, 3) := by decide +kernel
theorem dL_law_207 : decode cL_law 207 = .ok (.aload_n 3, 1) := by decide +kernel
theorem dL_law_208 : decode cL_law 208 = .ok (.iconst 0, 1) := by decide +kernel
theorem dL_law_209 : decode cL_law 209 = .ok (.laload, 1) := by decide +kernel
theorem dL_law_210 : decode cL_law 210 = .ok (.iload 7, 2) := by decide +kernel
theorem dL_law_212 : decode cL_law 212 = .ok (.i2l, 1) := by decide +kernel
theorem dL_law_213 : decode cL_law 213 = .ok (.lcmp, 1) := by decide +kernel
theorem dL_law_214 : decode cL_law 214 = .ok (.ifCond .eq 5, 3) := by decide +kernel
theorem dL_law_217 : decode cL_law 217 = .ok (.iconst 0, 1) := by decide +kernel
theorem dL_law_218 : decode cL_law 218 = .ok (.ireturn, 1) := by decide +kernel
theorem dL_law_219 : decode cL_law 219 = .ok (.goto 1492, 3) := by decide +kernel
theorem dL_law_222 : decode cL_law 222 = .ok (.aload_n 1, 1) := by decide +kernel
theorem dL_law_223 : decode cL_law 223 = .ok (.invokevirtual 110, 3) := by decide +kernel
theorem dL_law_226 : decode cL_law 226 = .ok (.aload_n 2, 1) := by decide +kernel
theorem dL_law_227 : decode cL_law 227 = .ok (.invokevirtual 113, 3) := by decide +kernel
theorem dL_law_230 : decode cL_law 230 = .ok (.if_icmp .eq 1481, 3) := by decide +kernel
theorem dL_law_233 : decode cL_law 233 = .ok (.iconst 0, 1) := by decide +kernel
theorem dL_law_234 : decode cL_law 234 = .ok (.ireturn, 1) := by decide +kernel
theorem dL_law_235 : decode cL_law 235 = .ok (.aload_n 1, 1) := by decide +kernel
theorem dL_law_236 : decode cL_law 236 = .ok (.aload_n 0, 1) := by decide +kernel
theorem dL_law_237 : decode cL_law 237 = .ok (.iload 5, 2) := by decide +kernel
theorem dL_law_239 : decode cL_law 239 = .ok (.iconst 1, 1) := by decide +kernel
theorem dL_law_240 : decode cL_law 240 = .ok (.iadd, 1) := by decide +kernel
theorem dL_law_241 : decode cL_law 241 = .ok (.iaload, 1) := by decide +kernel
theorem dL_law_242 : decode cL_law 242 = .ok (.aload_n 0, 1) := by decide +kernel
theorem dL_law_243 : decode cL_law 243 = .ok (.iload 5, 2) := by decide +kernel
theorem dL_law_245 : decode cL_law 245 = .ok (.iconst 2, 1) := by decide +kernel
theorem dL_law_246 : decode cL_law 246 = .ok (.iadd, 1) := by decide +kernel
theorem dL_law_247 : decode cL_law 247 = .ok (.iaload, 1) := by decide +kernel
theorem dL_law_248 : decode cL_law 248 = .ok (.aload_n 0, 1) := by decide +kernel
theorem dL_law_249 : decode cL_law 249 = .ok (.iload 5, 2) := by decide +kernel
theorem dL_law_251 : decode cL_law 251 = .ok (.iconst 3, 1) := by decide +kernel
theorem dL_law_252 : decode cL_law 252 = .ok (.iadd, 1) := by decide +kernel
theorem dL_law_253 : decode cL_law 253 = .ok (.iaload, 1) := by decide +kernel
theorem dL_law_254 : decode cL_law 254 = .ok (.aload_n 3, 1) := by decide +kernel
theorem dL_law_255 : decode cL_law 255 = .ok (.invokestatic 114, 3) := by decide +kernel
theorem dL_law_258 : decode cL_law 258 = .ok (.istore 6, 2) := by decide +kernel
theorem dL_law_260 : decode cL_law 260 = .ok (.aload_n 2, 1) := by decide +kernel
theorem dL_law_261 : decode cL_law 261 = .ok (.aload_n 0, 1) := by decide +kernel
theorem dL_law_262 : decode cL_law 262 = .ok (.iload 5, 2) := by decide +kernel
theorem dL_law_264 : decode cL_law 264 = .ok (.iconst 1, 1) := by decide +kernel
theorem dL_law_265 : decode cL_law 265 = .ok (.iadd, 1) := by decide +kernel
theorem dL_law_266 : decode cL_law 266 = .ok (.iaload, 1) := by decide +kernel
theorem dL_law_267 : decode cL_law 267 = .ok (.aload_n 0, 1) := by decide +kernel
theorem dL_law_268 : decode cL_law 268 = .ok (.iload 5, 2) := by decide +kernel
theorem dL_law_270 : decode cL_law 270 = .ok (.iconst 2, 1) := by decide +kernel
end
