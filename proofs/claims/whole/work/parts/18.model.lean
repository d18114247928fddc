def J_X6_init  (a0 : Nat) (σ : Hp) : jR := jnA σ 2 80 80 (fun b1 t2 => jpR t2 a0 6 1 (some b1) (fun t3 => jnA t3 2 40 40 (fun b4 t5 => jpR t5 a0 6 3 (some b4) (fun t6 => jnA t6 2 40 40 (fun b7 t8 => jpR t8 a0 6 4 (some b7) (fun t9 => jnA t9 2 40 40 (fun b10 t11 => jpR t11 a0 6 5 (some b10) (fun t12 => jnA t12 2 40 40 (fun b13 t14 => jpR t14 a0 6 6 (some b13) (fun t15 => jnA t15 2 1600 1600 (fun b16 t17 => jpR t17 a0 6 8 (some b16) (fun t18 => jnA t18 2 20 20 (fun b19 t20 => jpR t20 a0 6 9 (some b19) (fun t21 => jnA t21 2 480 480 (fun b22 t23 => jpR t23 a0 6 11 (some b22) (fun t24 => jnA t24 2 6 6 (fun b25 t26 => jpR t26 a0 6 12 (some b25) (fun t27 => jnA t27 2 6 6 (fun b28 t29 => jpR t29 a0 6 13 (some b28) (fun t30 => jpI t30 a0 6 15 20 (fun t31 => jnA t31 2 24000 24000 (fun b32 t33 => jpR t33 a0 6 16 (some b32) (fun t34 => jnA t34 2 600 600 (fun b35 t36 => jpR t36 a0 6 17 (some b35) (fun t37 => jnA t37 2 6 6 (fun b38 t39 => jpR t39 a0 6 18 (some b38) (fun t40 => jnA t40 2 480 480 (fun b41 t42 => jpR t42 a0 6 19 (some b41) (fun t43 => jpI t43 a0 6 20 5000 (fun t44 => jnA t44 2 6 6 (fun b45 t46 => jpR t46 a0 6 21 (some b45) (fun t47 => jnA t47 2 160 160 (fun b48 t49 => jpR t49 a0 6 22 (some b48) (fun t50 => jnA t50 2 1600 1600 (fun b51 t52 => jpR t52 a0 6 24 (some b51) (fun t53 => jnA t53 2 4000 4000 (fun b54 t55 => jpR t55 a0 6 25 (some b54) (fun t56 => jnA t56 2 100 100 (fun b57 t58 => jpR t58 a0 6 26 (some b57) (fun t59 => some (.inl none, t59)))))))))))))))))))))))))))))))))))))))))
set_option maxHeartbeats 4000000 in
set_option maxRecDepth 100000 in
theorem k_X6_init (l : Launch) (hst : l.stackTraces = false) (g : jG)   (a0 : Nat) (σ : Hp) (o : jO) (τ : Hp) (h : J_X6_init a0 σ = some (o, τ)) : jMet l g yX6_init (Cond.code yX6_init cX6_init 1 none :: gT) ({ frames := 1, cells := 19, slots := 33304, locals := 26 } : Room) 19 33304 [.ref a0] σ o τ := by
  refine j_start l hst (own := RX6) (by decide) rfl (Nat.le_of_ble_eq_true rfl) ?_
  intro p e s m args below meth c C hE hin
  unfold J_X6_init at h
  show jW p l e ({ frames := 1, cells := 19, slots := 33304, locals := 26 } : Room) s m args below meth c g (jQ below g o τ args s 19 33304) 0 0 0 [(0, .ref a0)] [] σ
  refine r_aload_n C (x := some a0) 1 rfl 0 dX6_init_0 rfl ?_
  refine r_objInit C 4 rfl ml_X6_1 im_oi cd_oi dX6_init_1 (Nat.le_of_ble_eq_true rfl) (Nat.le_of_ble_eq_true rfl) ?_
  refine r_aload_n C (x := some a0) 5 rfl 0 dX6_init_4 rfl ?_
  refine r_bipush C (v := 80) 7 rfl dX6_init_5 (by decide) ?_
  refine r_newI C 9 rfl ac_int dX6_init_7 (by decide) (Nat.le_of_ble_eq_true rfl) (Nat.le_of_ble_eq_true rfl) h (fun b1 t2 h => ?_)
  refine r_putRF C hin (v := (some b1)) 12 rfl fp_X6_7 dX6_init_9 h (fun t3 h => ?_)
  refine r_aload_n C (x := some a0) 13 rfl 0 dX6_init_12 rfl ?_
  refine r_bipush C (v := 40) 15 rfl dX6_init_13 (by decide) ?_
  refine r_newI C 17 rfl ac_int dX6_init_15 (by decide) (Nat.le_of_ble_eq_true rfl) (Nat.le_of_ble_eq_true rfl) h (fun b4 t5 h => ?_)
  refine r_putRF C hin (v := (some b4)) 20 rfl fp_X6_13 dX6_init_17 h (fun t6 h => ?_)
  refine r_aload_n C (x := some a0) 21 rfl 0 dX6_init_20 rfl ?_
  refine r_bipush C (v := 40) 23 rfl dX6_init_21 (by decide) ?_
  refine r_newI C 25 rfl ac_int dX6_init_23 (by decide) (Nat.le_of_ble_eq_true rfl) (Nat.le_of_ble_eq_true rfl) h (fun b7 t8 h => ?_)
  refine r_putRF C hin (v := (some b7)) 28 rfl fp_X6_16 dX6_init_25 h (fun t9 h => ?_)
  refine r_aload_n C (x := some a0) 29 rfl 0 dX6_init_28 rfl ?_
  refine r_bipush C (v := 40) 31 rfl dX6_init_29 (by decide) ?_
  refine r_newI C 33 rfl ac_int dX6_init_31 (by decide) (Nat.le_of_ble_eq_true rfl) (Nat.le_of_ble_eq_true rfl) h (fun b10 t11 h => ?_)
  refine r_putRF C hin (v := (some b10)) 36 rfl fp_X6_19 dX6_init_33 h (fun t12 h => ?_)
  refine r_aload_n C (x := some a0) 37 rfl 0 dX6_init_36 rfl ?_
  refine r_bipush C (v := 40) 39 rfl dX6_init_37 (by decide) ?_
  refine r_newI C 41 rfl ac_int dX6_init_39 (by decide) (Nat.le_of_ble_eq_true rfl) (Nat.le_of_ble_eq_true rfl) h (fun b13 t14 h => ?_)
  refine r_putRF C hin (v := (some b13)) 44 rfl fp_X6_22 dX6_init_41 h (fun t15 h => ?_)
  refine r_aload_n C (x := some a0) 45 rfl 0 dX6_init_44 rfl ?_
  refine r_sipush C (v := 1600) 48 rfl dX6_init_45 (by decide) ?_
  refine r_newI C 50 rfl ac_int dX6_init_48 (by decide) (Nat.le_of_ble_eq_true rfl) (Nat.le_of_ble_eq_true rfl) h (fun b16 t17 h => ?_)
  refine r_putRF C hin (v := (some b16)) 53 rfl fp_X6_25 dX6_init_50 h (fun t18 h => ?_)
  refine r_aload_n C (x := some a0) 54 rfl 0 dX6_init_53 rfl ?_
  refine r_bipush C (v := 20) 56 rfl dX6_init_54 (by decide) ?_
  refine r_newI C 58 rfl ac_int dX6_init_56 (by decide) (Nat.le_of_ble_eq_true rfl) (Nat.le_of_ble_eq_true rfl) h (fun b19 t20 h => ?_)
  refine r_putRF C hin (v := (some b19)) 61 rfl fp_X6_28 dX6_init_58 h (fun t21 h => ?_)
  refine r_aload_n C (x := some a0) 62 rfl 0 dX6_init_61 rfl ?_
  refine r_sipush C (v := 480) 65 rfl dX6_init_62 (by decide) ?_
  refine r_newI C 67 rfl ac_int dX6_init_65 (by decide) (Nat.le_of_ble_eq_true rfl) (Nat.le_of_ble_eq_true rfl) h (fun b22 t23 h => ?_)
  refine r_putRF C hin (v := (some b22)) 70 rfl fp_X6_31 dX6_init_67 h (fun t24 h => ?_)
  refine r_aload_n C (x := some a0) 71 rfl 0 dX6_init_70 rfl ?_
  refine r_bipush C (v := 6) 73 rfl dX6_init_71 (by decide) ?_
  refine r_newI C 75 rfl ac_int dX6_init_73 (by decide) (Nat.le_of_ble_eq_true rfl) (Nat.le_of_ble_eq_true rfl) h (fun b25 t26 h => ?_)
  refine r_putRF C hin (v := (some b25)) 78 rfl fp_X6_34 dX6_init_75 h (fun t27 h => ?_)
  refine r_aload_n C (x := some a0) 79 rfl 0 dX6_init_78 rfl ?_
  refine r_bipush C (v := 6) 81 rfl dX6_init_79 (by decide) ?_
  refine r_newI C 83 rfl ac_int dX6_init_81 (by decide) (Nat.le_of_ble_eq_true rfl) (Nat.le_of_ble_eq_true rfl) h (fun b28 t29 h => ?_)
  refine r_putRF C hin (v := (some b28)) 86 rfl fp_X6_37 dX6_init_83 h (fun t30 h => ?_)
  refine r_aload_n C (x := some a0) 87 rfl 0 dX6_init_86 rfl ?_
  refine r_bipush C (v := 20) 89 rfl dX6_init_87 (by decide) ?_
  refine r_putI C 92 rfl fp_X6_40 dX6_init_89 h (fun t31 h => ?_)
  refine r_aload_n C (x := some a0) 93 rfl 0 dX6_init_92 rfl ?_
  refine r_sipush C (v := 24000) 96 rfl dX6_init_93 (by decide) ?_
  refine r_newI C 98 rfl ac_int dX6_init_96 (by decide) (Nat.le_of_ble_eq_true rfl) (Nat.le_of_ble_eq_true rfl) h (fun b32 t33 h => ?_)
  refine r_putRF C hin (v := (some b32)) 101 rfl fp_X6_44 dX6_init_98 h (fun t34 h => ?_)
  refine r_aload_n C (x := some a0) 102 rfl 0 dX6_init_101 rfl ?_
  refine r_sipush C (v := 600) 105 rfl dX6_init_102 (by decide) ?_
  refine r_newI C 107 rfl ac_int dX6_init_105 (by decide) (Nat.le_of_ble_eq_true rfl) (Nat.le_of_ble_eq_true rfl) h (fun b35 t36 h => ?_)
  refine r_putRF C hin (v := (some b35)) 110 rfl fp_X6_47 dX6_init_107 h (fun t37 h => ?_)
  refine r_aload_n C (x := some a0) 111 rfl 0 dX6_init_110 rfl ?_
  refine r_bipush C (v := 6) 113 rfl dX6_init_111 (by decide) ?_
  refine r_newI C 115 rfl ac_int dX6_init_113 (by decide) (Nat.le_of_ble_eq_true rfl) (Nat.le_of_ble_eq_true rfl) h (fun b38 t39 h => ?_)
  refine r_putRF C hin (v := (some b38)) 118 rfl fp_X6_50 dX6_init_115 h (fun t40 h => ?_)
  refine r_aload_n C (x := some a0) 119 rfl 0 dX6_init_118 rfl ?_
  refine r_sipush C (v := 480) 122 rfl dX6_init_119 (by decide) ?_
  refine r_newI C 124 rfl ac_int dX6_init_122 (by decide) (Nat.le_of_ble_eq_true rfl) (Nat.le_of_ble_eq_true rfl) h (fun b41 t42 h => ?_)
  refine r_putRF C hin (v := (some b41)) 127 rfl fp_X6_53 dX6_init_124 h (fun t43 h => ?_)
  refine r_aload_n C (x := some a0) 128 rfl 0 dX6_init_127 rfl ?_
  refine r_sipush C (v := 5000) 131 rfl dX6_init_128 (by decide) ?_
  refine r_putI C 134 rfl fp_X6_56 dX6_init_131 h (fun t44 h => ?_)
  refine r_aload_n C (x := some a0) 135 rfl 0 dX6_init_134 rfl ?_
  refine r_bipush C (v := 6) 137 rfl dX6_init_135 (by decide) ?_
  refine r_newI C 139 rfl ac_int dX6_init_137 (by decide) (Nat.le_of_ble_eq_true rfl) (Nat.le_of_ble_eq_true rfl) h (fun b45 t46 h => ?_)
  refine r_putRF C hin (v := (some b45)) 142 rfl fp_X6_59 dX6_init_139 h (fun t47 h => ?_)
  refine r_aload_n C (x := some a0) 143 rfl 0 dX6_init_142 rfl ?_
  refine r_sipush C (v := 160) 146 rfl dX6_init_143 (by decide) ?_
  refine r_newI C 148 rfl ac_int dX6_init_146 (by decide) (Nat.le_of_ble_eq_true rfl) (Nat.le_of_ble_eq_true rfl) h (fun b48 t49 h => ?_)
  refine r_putRF C hin (v := (some b48)) 151 rfl fp_X6_62 dX6_init_148 h (fun t50 h => ?_)
  refine r_aload_n C (x := some a0) 152 rfl 0 dX6_init_151 rfl ?_
  refine r_sipush C (v := 1600) 155 rfl dX6_init_152 (by decide) ?_
  refine r_newI C 157 rfl ac_int dX6_init_155 (by decide) (Nat.le_of_ble_eq_true rfl) (Nat.le_of_ble_eq_true rfl) h (fun b51 t52 h => ?_)
  refine r_putRF C hin (v := (some b51)) 160 rfl fp_X6_65 dX6_init_157 h (fun t53 h => ?_)
  refine r_aload_n C (x := some a0) 161 rfl 0 dX6_init_160 rfl ?_
  refine r_sipush C (v := 4000) 164 rfl dX6_init_161 (by decide) ?_
  refine r_newI C 166 rfl ac_int dX6_init_164 (by decide) (Nat.le_of_ble_eq_true rfl) (Nat.le_of_ble_eq_true rfl) h (fun b54 t55 h => ?_)
  refine r_putRF C hin (v := (some b54)) 169 rfl fp_X6_68 dX6_init_166 h (fun t56 h => ?_)
  refine r_aload_n C (x := some a0) 170 rfl 0 dX6_init_169 rfl ?_
  refine r_bipush C (v := 100) 172 rfl dX6_init_170 (by decide) ?_
  refine r_newI C 174 rfl ac_int dX6_init_172 (by decide) (Nat.le_of_ble_eq_true rfl) (Nat.le_of_ble_eq_true rfl) h (fun b57 t58 h => ?_)
  refine r_putRF C hin (v := (some b57)) 177 rfl fp_X6_71 dX6_init_174 h (fun t59 h => ?_)
  exact r_vret C dX6_init_177 (Nat.le_refl _) (Nat.le_refl _) h

def J_X6_thrown  (a0 : Nat) (σ : Hp) : jR := jgI σ a0 6 0 (fun x1 => some (.inl (some (.int x1)), σ))
set_option maxHeartbeats 4000000 in
set_option maxRecDepth 100000 in
theorem k_X6_thrown (l : Launch) (hst : l.stackTraces = false) (g : jG)   (a0 : Nat) (σ : Hp) (o : jO) (τ : Hp) (h : J_X6_thrown a0 σ = some (o, τ)) : jMet l g yX6_thrown (Cond.code yX6_thrown cX6_thrown 1 (some FieldType.int) :: gT) ({ frames := 1, cells := 0, slots := 0, locals := 12 } : Room) 0 0 [.ref a0] σ o τ := by
  refine j_start l hst (own := RX6) (by decide) rfl (Nat.le_of_ble_eq_true rfl) ?_
  intro p e s m args below meth c C hE hin
  unfold J_X6_thrown at h
  show jW p l e ({ frames := 1, cells := 0, slots := 0, locals := 12 } : Room) s m args below meth c g (jQ below g o τ args s 0 0) 0 0 0 [(0, .ref a0)] [] σ
  refine r_aload_n C (x := some a0) 1 rfl 0 dX6_thrown_0 rfl ?_
  refine r_getI C 4 rfl ff_X6_74 dX6_thrown_1 h (fun x1 h => ?_)
  exact r_iret C dX6_thrown_4 (Nat.le_refl _) (Nat.le_refl _) h

def J_X6_in  (v0 : Int32) (v1 : Int32) (v2 : Int32) (σ : Hp) : jR := (if v0 < v1 then jrt .boolean 0 σ else (if v2 < v0 then jrt .boolean 0 σ else jrt .boolean 1 σ))
set_option maxHeartbeats 4000000 in
set_option maxRecDepth 100000 in
theorem k_X6_in (l : Launch) (hst : l.stackTraces = false) (g : jG)   (v0 : Int32) (v1 : Int32) (v2 : Int32) (σ : Hp) (o : jO) (τ : Hp) (h : J_X6_in v0 v1 v2 σ = some (o, τ)) : jMet l g yX6_in (Cond.code yX6_in cX6_in 3 (some FieldType.boolean) :: gT) ({ frames := 1, cells := 0, slots := 0, locals := 12 } : Room) 0 0 [.int v0, .int v1, .int v2] σ o τ := by
  refine j_start l hst (own := RX6) (by decide) rfl (Nat.le_of_ble_eq_true rfl) ?_
  intro p e s m args below meth c C hE hin
  unfold J_X6_in at h
  show jW p l e ({ frames := 1, cells := 0, slots := 0, locals := 12 } : Room) s m args below meth c g (jQ below g o τ args s 0 0) 0 0 0 [(0, .int v0), (1, .int v1), (2, .int v2)] [] σ
  refine r_iload_n C 1 rfl 0 dX6_in_0 rfl ?_
  refine r_iload_n C 2 rfl 1 dX6_in_1 rfl ?_
  refine r_icmp_lt C 14 5 rfl dX6_in_2 (by decide) h (fun h => ?_) (fun h => ?_)
  · refine r_iconst C (v := 0) 15 rfl dX6_in_14 (by decide) ?_
    exact r_zret C (fun _ => rfl) dX6_in_15 (Nat.le_refl _) (Nat.le_refl _) h
  · refine r_iload_n C 6 rfl 0 dX6_in_5 rfl ?_
    refine r_iload_n C 7 rfl 2 dX6_in_6 rfl ?_
    refine r_icmp_gt C 14 10 rfl dX6_in_7 (by decide) h (fun h => ?_) (fun h => ?_)
    · refine r_iconst C (v := 0) 15 rfl dX6_in_14 (by decide) ?_
      exact r_zret C (fun _ => rfl) dX6_in_15 (Nat.le_refl _) (Nat.le_refl _) h
    · refine r_iconst C (v := 1) 11 rfl dX6_in_10 (by decide) ?_
      refine r_goto C 15 dX6_in_11 (by decide) ?_
      exact r_zret C (fun _ => rfl) dX6_in_15 (Nat.le_refl _) (Nat.le_refl _) h

def J_X6_goesOn  (a0 : Nat) (v1 : Int32) (σ : Hp) : jR := jpI σ a0 6 0 v1 (fun t1 => (if v1 = 0 then jrt .boolean 1 t1 else jrt .boolean 0 t1))
set_option maxHeartbeats 4000000 in
set_option maxRecDepth 100000 in
theorem k_X6_goesOn (l : Launch) (hst : l.stackTraces = false) (g : jG)   (a0 : Nat) (v1 : Int32) (σ : Hp) (o : jO) (τ : Hp) (h : J_X6_goesOn a0 v1 σ = some (o, τ)) : jMet l g yX6_goesOn (Cond.code yX6_goesOn cX6_goesOn 2 (some FieldType.boolean) :: gT) ({ frames := 1, cells := 0, slots := 0, locals := 12 } : Room) 0 0 [.ref a0, .int v1] σ o τ := by
  refine j_start l hst (own := RX6) (by decide) rfl (Nat.le_of_ble_eq_true rfl) ?_
  intro p e s m args below meth c C hE hin
  unfold J_X6_goesOn at h
  show jW p l e ({ frames := 1, cells := 0, slots := 0, locals := 12 } : Room) s m args below meth c g (jQ below g o τ args s 0 0) 0 0 0 [(0, .ref a0), (1, .int v1)] [] σ
  refine r_aload_n C (x := some a0) 1 rfl 0 dX6_goesOn_0 rfl ?_
  refine r_iload_n C 2 rfl 1 dX6_goesOn_1 rfl ?_
  refine r_putI C 5 rfl fp_X6_74 dX6_goesOn_2 h (fun t1 h => ?_)
  refine r_iload_n C 6 rfl 1 dX6_goesOn_5 rfl ?_
  refine r_if_ne C 13 9 rfl dX6_goesOn_6 (by decide) h (fun h => ?_) (fun h => ?_)
  · refine r_iconst C (v := 0) 14 rfl dX6_goesOn_13 (by decide) ?_
    exact r_zret C (fun _ => rfl) dX6_goesOn_14 (Nat.le_refl _) (Nat.le_refl _) h
  · refine r_iconst C (v := 1) 10 rfl dX6_goesOn_9 (by decide) ?_
    refine r_goto C 14 dX6_goesOn_10 (by decide) ?_
    exact r_zret C (fun _ => rfl) dX6_goesOn_14 (Nat.le_refl _) (Nat.le_refl _) h

def J_X6_type  (a0 : Nat) (v1 : Int32) (σ : Hp) : jR := jj (fun (x1 : Int32) (t2 : Hp) => jj (fun (x3 : Int32) (t4 : Hp) => jcv t4 a0 6 (J_X6_goesOn a0 x3 t4) (fun w6 t5 => jvI w6 (fun x7 => (if x7 = 0 then some (.inl (some (.int 0)), t5) else jgR t5 a0 6 1 (fun r8 => jgI t5 a0 6 2 (fun x9 => jj (fun (x10 : Int32) (t11 : Hp) => jdr r8 (fun b12 => jsI t11 b12 x9 x10 (fun t13 => jgI t13 a0 6 2 (fun x14 => jpI t13 a0 6 2 (x14 + 1) (fun t15 => jgI t15 a0 6 2 (fun x16 => some (.inl (some (.int x16)), t15))))))) (fun j78 => (if v1 = 32 then j78 0 t5 else j78 ((v1 - 97) + 1) t5))))))) (fun E t => some (.inr E, t))) (fun j46 => (if x1 = 0 then j46 1 t2 else jgI t2 a0 6 2 (fun x17 => (if x17 = 80 then j46 2 t2 else j46 0 t2))))) (fun j22 => jj (fun (t18 : Hp) => j22 1 t18) (fun j17 => (if v1 = 32 then j17 σ else jcs (J_X6_in v1 97 122 σ) (fun w20 t19 => jvI w20 (fun x21 => (if x21 = 0 then j22 0 t19 else j17 t19))) (fun E t => some (.inr E, t)))))
set_option maxHeartbeats 4000000 in
set_option maxRecDepth 100000 in
theorem k_X6_type (l : Launch) (hst : l.stackTraces = false) (g : jG)   (a0 : Nat) (v1 : Int32) (σ : Hp) (o : jO) (τ : Hp) (h : J_X6_type a0 v1 σ = some (o, τ)) : jMet l g yX6_type (Cond.code yX6_type cX6_type 3 (some FieldType.int) :: gT) ({ frames := 2, cells := 0, slots := 0, locals := 34 } : Room) 0 0 [.ref a0, .int v1] σ o τ := by
  refine j_start l hst (own := RX6) (by decide) rfl (Nat.le_of_ble_eq_true rfl) ?_
  intro p e s m args below meth c C hE hin
  unfold J_X6_type at h
  show jW p l e ({ frames := 2, cells := 0, slots := 0, locals := 34 } : Room) s m args below meth c g (jQ below g o τ args s 0 0) 0 0 0 [(0, .ref a0), (1, .int v1)] [] σ
  refine r_iload_n C 1 rfl 1 dX6_type_0 rfl ?_
  refine r_bipush C (v := 32) 3 rfl dX6_type_1 (by decide) ?_
  obtain ⟨j22, hj22E, h⟩ := jj_some h
  have hj22 : ∀ (x1 : Int32) (t2 : Hp), j22 x1 t2 = some (o, τ) → jW p l e ({ frames := 2, cells := 0, slots := 0, locals := 34 } : Room) s m args below meth c g (jQ below g o τ args s 0 0) 0 0 22 [(0, .ref a0), (1, .int v1)] [.int x1] t2 := by
    subst hj22E
    intro x1 t2 h
    refine r_istore_n C 23 rfl [(2, .int x1), (0, .ref a0), (1, .int v1)] dX6_type_22 (by decide) rfl ?_
    refine r_aload_n C (x := some a0) 24 rfl 1 dX6_type_23 rfl ?_
    refine r_iload_n C 25 rfl 0 dX6_type_24 rfl ?_
    obtain ⟨j46, hj46E, h⟩ := jj_some h
    have hj46 : ∀ (x3 : Int32) (t4 : Hp), j46 x3 t4 = some (o, τ) → jW p l e ({ frames := 2, cells := 0, slots := 0, locals := 34 } : Room) s m args below meth c g (jQ below g o τ args s 0 0) 0 0 46 [(0, .ref a0), (1, .int v1)] [.int x3, .ref a0] t4 := by
      subst hj46E
      intro x3 t4 h
      refine r_callV C (ci := 6) mm_X6_84 im_yX6_goesOn se_yX6_goesOn rfl 49 0 0 rfl rfl rfl dX6_type_46 rfl rfl (As := [.int x3]) rfl rfl (Nat.le_of_ble_eq_true rfl) ⟨Nat.le_of_ble_eq_true rfl, Nat.le_of_ble_eq_true rfl⟩ ⟨(Nat.le_of_ble_eq_true rfl), (Nat.le_of_ble_eq_true rfl)⟩ (fun o t h => k_X6_goesOn l hst g _ _ _ o t h) h (fun w6 t5 h => ?_) (fun E t h => r_out C (fun x hx => (hE x hx).elim) (Nat.le_refl _) (Nat.le_refl _) h)
      replace h := jvI_some h
      obtain ⟨x7, rfl, h⟩ := h
      refine r_if_ne C 54 52 rfl dX6_type_49 (by decide) h (fun h => ?_) (fun h => ?_)
      · refine r_aload_n C (x := some a0) 55 rfl 0 dX6_type_54 rfl ?_
        refine r_getR C 58 rfl ff_X6_7 dX6_type_55 h (fun r8 h => ?_)
        refine r_aload_n C (x := some a0) 59 rfl 0 dX6_type_58 rfl ?_
        refine r_getI C 62 rfl ff_X6_81 dX6_type_59 h (fun x9 h => ?_)
        refine r_iload_n C 63 rfl 1 dX6_type_62 rfl ?_
        refine r_bipush C (v := 32) 65 rfl dX6_type_63 (by decide) ?_
        obtain ⟨j78, hj78E, h⟩ := jj_some h
        have hj78 : ∀ (x10 : Int32) (t11 : Hp), j78 x10 t11 = some (o, τ) → jW p l e ({ frames := 2, cells := 0, slots := 0, locals := 34 } : Room) s m args below meth c g (jQ below g o τ args s 0 0) 0 0 78 [(0, .ref a0)] [.int x10, .int x9, va_rf r8] t11 := by
          subst hj78E
          intro x10 t11 h
          replace h := jdr_some h
          obtain ⟨b12, hr, h⟩ := h
          rw [hr]
          refine r_iast C 79 rfl dX6_type_78 h (fun t13 h => ?_)
          refine r_aload_n C (x := some a0) 80 rfl 0 dX6_type_79 rfl ?_
          refine r_dup C 81 rfl dX6_type_80 rfl ?_
          refine r_getI C 84 rfl ff_X6_81 dX6_type_81 h (fun x14 h => ?_)
          refine r_iconst C (v := 1) 85 rfl dX6_type_84 (by decide) ?_
          refine r_iadd C 86 rfl dX6_type_85 ?_
          refine r_putI C 89 rfl fp_X6_81 dX6_type_86 h (fun t15 h => ?_)
          refine r_aload_n C (x := some a0) 90 rfl 0 dX6_type_89 rfl ?_
          refine r_getI C 93 rfl ff_X6_81 dX6_type_90 h (fun x16 h => ?_)
          exact r_iret C dX6_type_93 (Nat.le_refl _) (Nat.le_refl _) h
        clear hj78E
        refine r_icmp_ne C 72 68 rfl dX6_type_65 (by decide) h (fun h => ?_) (fun h => ?_)
        · refine r_iload_n C 73 rfl 1 dX6_type_72 rfl ?_
          refine r_bipush C (v := 97) 75 rfl dX6_type_73 (by decide) ?_
          refine r_isub C 76 rfl dX6_type_75 ?_
          refine r_iconst C (v := 1) 77 rfl dX6_type_76 (by decide) ?_
          refine r_iadd C 78 rfl dX6_type_77 ?_
          refine r_lv [0] rfl ?_
          exact hj78 ((v1 - 97) + 1) t5 h
        · refine r_iconst C (v := 0) 69 rfl dX6_type_68 (by decide) ?_
          refine r_goto C 78 dX6_type_69 (by decide) ?_
          refine r_lv [0] rfl ?_
          exact hj78 0 t5 h
      · refine r_iconst C (v := 0) 53 rfl dX6_type_52 (by decide) ?_
        exact r_iret C dX6_type_53 (Nat.le_refl _) (Nat.le_refl _) h
    clear hj46E
    refine r_if_ne C 32 28 rfl dX6_type_25 (by decide) h (fun h => ?_) (fun h => ?_)
    · refine r_aload_n C (x := some a0) 33 rfl 1 dX6_type_32 rfl ?_
      refine r_getI C 36 rfl ff_X6_81 dX6_type_33 h (fun x17 h => ?_)
      refine r_bipush C (v := 80) 38 rfl dX6_type_36 (by decide) ?_
      refine r_icmp_ne C 45 41 rfl dX6_type_38 (by decide) h (fun h => ?_) (fun h => ?_)
      · refine r_iconst C (v := 0) 46 rfl dX6_type_45 (by decide) ?_
        refine r_lv [1, 2] rfl ?_
        exact hj46 0 t2 h
      · refine r_iconst C (v := 2) 42 rfl dX6_type_41 (by decide) ?_
        refine r_goto C 46 dX6_type_42 (by decide) ?_
        refine r_lv [1, 2] rfl ?_
        exact hj46 2 t2 h
    · refine r_iconst C (v := 1) 29 rfl dX6_type_28 (by decide) ?_
      refine r_goto C 46 dX6_type_29 (by decide) ?_
      refine r_lv [1, 2] rfl ?_
      exact hj46 1 t2 h
  clear hj22E
  obtain ⟨j17, hj17E, h⟩ := jj_some h
  have hj17 : ∀ (t18 : Hp), j17 t18 = some (o, τ) → jW p l e ({ frames := 2, cells := 0, slots := 0, locals := 34 } : Room) s m args below meth c g (jQ below g o τ args s 0 0) 0 0 17 [(0, .ref a0), (1, .int v1)] [] t18 := by
    subst hj17E
    intro t18 h
    refine r_iconst C (v := 1) 18 rfl dX6_type_17 (by decide) ?_
    refine r_goto C 22 dX6_type_18 (by decide) ?_
    exact hj22 1 t18 h
  clear hj17E
  refine r_icmp_eq C 17 6 rfl dX6_type_3 (by decide) h (fun h => ?_) (fun h => ?_)
  · exact hj17 σ h
  · refine r_iload_n C 7 rfl 1 dX6_type_6 rfl ?_
    refine r_bipush C (v := 97) 9 rfl dX6_type_7 (by decide) ?_
    refine r_bipush C (v := 122) 11 rfl dX6_type_9 (by decide) ?_
    refine r_callS C mm_X6_77 st_yX6_in 14 0 0 rfl rfl rfl dX6_type_11 rfl rfl (As := [.int v1, .int 97, .int 122]) rfl rfl (Nat.le_of_ble_eq_true rfl) ⟨Nat.le_of_ble_eq_true rfl, Nat.le_of_ble_eq_true rfl⟩ ⟨(Nat.le_of_ble_eq_true rfl), (Nat.le_of_ble_eq_true rfl)⟩ (fun o t h => k_X6_in l hst g _ _ _ _ o t h) h (fun w20 t19 h => ?_) (fun E t h => r_out C (fun x hx => (hE x hx).elim) (Nat.le_refl _) (Nat.le_refl _) h)
    replace h := jvI_some h
    obtain ⟨x21, rfl, h⟩ := h
    refine r_if_eq C 21 17 rfl dX6_type_14 (by decide) h (fun h => ?_) (fun h => ?_)
    · refine r_iconst C (v := 0) 22 rfl dX6_type_21 (by decide) ?_
      exact hj22 0 t19 h
    · exact hj17 t19 h

def J_X6_clear  (a0 : Nat) (σ : Hp) : jR := jpI σ a0 6 0 0 (fun t1 => jgI t1 a0 6 2 (fun x2 => jpI t1 a0 6 2 0 (fun t3 => some (.inl (some (.int x2)), t3))))
set_option maxHeartbeats 4000000 in
set_option maxRecDepth 100000 in
theorem k_X6_clear (l : Launch) (hst : l.stackTraces = false) (g : jG)   (a0 : Nat) (σ : Hp) (o : jO) (τ : Hp) (h : J_X6_clear a0 σ = some (o, τ)) : jMet l g yX6_clear (Cond.code yX6_clear cX6_clear 2 (some FieldType.int) :: gT) ({ frames := 1, cells := 0, slots := 0, locals := 12 } : Room) 0 0 [.ref a0] σ o τ := by
  refine j_start l hst (own := RX6) (by decide) rfl (Nat.le_of_ble_eq_true rfl) ?_
  intro p e s m args below meth c C hE hin
  unfold J_X6_clear at h
  show jW p l e ({ frames := 1, cells := 0, slots := 0, locals := 12 } : Room) s m args below meth c g (jQ below g o τ args s 0 0) 0 0 0 [(0, .ref a0)] [] σ
  refine r_aload_n C (x := some a0) 1 rfl 0 dX6_clear_0 rfl ?_
  refine r_iconst C (v := 0) 2 rfl dX6_clear_1 (by decide) ?_
  refine r_putI C 5 rfl fp_X6_74 dX6_clear_2 h (fun t1 h => ?_)
  refine r_aload_n C (x := some a0) 6 rfl 0 dX6_clear_5 rfl ?_
  refine r_getI C 9 rfl ff_X6_81 dX6_clear_6 h (fun x2 h => ?_)
  refine r_istore_n C 10 rfl [(1, .int x2), (0, .ref a0)] dX6_clear_9 (by decide) rfl ?_
  refine r_aload_n C (x := some a0) 11 rfl 1 dX6_clear_10 rfl ?_
  refine r_iconst C (v := 0) 12 rfl dX6_clear_11 (by decide) ?_
  refine r_putI C 15 rfl fp_X6_81 dX6_clear_12 h (fun t3 h => ?_)
  refine r_iload_n C 16 rfl 0 dX6_clear_15 rfl ?_
  exact r_iret C dX6_clear_16 (Nat.le_refl _) (Nat.le_refl _) h

def J_X6_hasBlank_L4b   (rc : Nat → Int32 → Int32 → Hp → jR) (a0 : Nat) (v1 : Int32) (v2 : Int32) (t0 : Hp) : jR := jgI t0 a0 6 2 (fun x1 => (if x1 ≤ v2 then jrt .boolean v1 t0 else jj (fun (x2 : Int32) (t3 : Hp) => rc a0 x2 (v2 + 1) t3) (fun j30 => jj (fun (t4 : Hp) => j30 1 t4) (fun j25 => (if v1 = 0 then jgR t0 a0 6 1 (fun r5 => jdr r5 (fun b6 => jaI t0 b6 v2 (fun x7 => (if x7 = 0 then j25 t0 else j30 0 t0)))) else j25 t0)))))
def J_X6_hasBlank_L4   : Nat → Nat → Int32 → Int32 → Hp → jR
  | 0 => fun _ _ _ _ => none
  | n + 1 => J_X6_hasBlank_L4b   (J_X6_hasBlank_L4   n)
def J_X6_hasBlank  (a0 : Nat) (σ : Hp) : jR := J_X6_hasBlank_L4   jN a0 0 0 σ
set_option maxHeartbeats 4000000 in
set_option maxRecDepth 100000 in
theorem w_X6_hasBlank_L4 (l : Launch) (hst : l.stackTraces = false) {p : Program} {e : Env} {s : State} {m : MethodId} {args : Array Value} {below : List Frame} {meth : Method} {c : Code} {g : jG} {o : jO} {τ : Hp}  (C : jC p l s m args meth c g RX6 cX6_hasBlank 3 (some FieldType.boolean)) (hE : ∀ x ∈ c.exceptionTable.toList, False)  : ∀ (n : Nat) (a0 : Nat) (v1 : Int32) (v2 : Int32) (t0 : Hp), J_X6_hasBlank_L4   n a0 v1 v2 t0 = some (o, τ) → jW p l e ({ frames := 1, cells := 0, slots := 0, locals := 12 } : Room) s m args below meth c g (jQ below g o τ args s 0 0) 0 0 4 [(0, .ref a0), (1, .int v1), (2, .int v2)] [] t0 := by
  intro n
  induction n with
  | zero => intro a0 v1 v2 t0 h; cases h
  | succ n ih =>
    intro a0 v1 v2 t0 h
    have h : J_X6_hasBlank_L4b   (J_X6_hasBlank_L4   n) a0 v1 v2 t0 = some (o, τ) := h
    unfold J_X6_hasBlank_L4b at h
    refine r_iload_n C 5 rfl 2 dX6_hasBlank_4 rfl ?_
    refine r_aload_n C (x := some a0) 6 rfl 0 dX6_hasBlank_5 rfl ?_
    refine r_getI C 9 rfl ff_X6_81 dX6_hasBlank_6 h (fun x1 h => ?_)
    refine r_icmp_ge C 37 12 rfl dX6_hasBlank_9 (by decide) h (fun h => ?_) (fun h => ?_)
    · refine r_iload_n C 38 rfl 1 dX6_hasBlank_37 rfl ?_
      exact r_zret C (fun _ => rfl) dX6_hasBlank_38 (Nat.le_refl _) (Nat.le_refl _) h
    · refine r_iload_n C 13 rfl 1 dX6_hasBlank_12 rfl ?_
      obtain ⟨j30, hj30E, h⟩ := jj_some h
      have hj30 : ∀ (x2 : Int32) (t3 : Hp), j30 x2 t3 = some (o, τ) → jW p l e ({ frames := 1, cells := 0, slots := 0, locals := 12 } : Room) s m args below meth c g (jQ below g o τ args s 0 0) 0 0 30 [(0, .ref a0), (2, .int v2)] [.int x2] t3 := by
        subst hj30E
        intro x2 t3 h
        refine r_istore_n C 31 rfl [(1, .int x2), (0, .ref a0), (2, .int v2)] dX6_hasBlank_30 (by decide) rfl ?_
        refine r_iinc C (v := v2 + 1) 34 rfl 2 [(2, .int (v2 + 1)), (1, .int x2), (0, .ref a0)] dX6_hasBlank_31 rfl rfl (by decide) rfl ?_
        refine r_goto C 4 dX6_hasBlank_34 (by decide) ?_
        refine r_lv [2, 1, 0] rfl ?_
        exact ih a0 x2 (v2 + 1) t3 h
      clear hj30E
      obtain ⟨j25, hj25E, h⟩ := jj_some h
      have hj25 : ∀ (t4 : Hp), j25 t4 = some (o, τ) → jW p l e ({ frames := 1, cells := 0, slots := 0, locals := 12 } : Room) s m args below meth c g (jQ below g o τ args s 0 0) 0 0 25 [(0, .ref a0), (2, .int v2)] [] t4 := by
        subst hj25E
        intro t4 h
        refine r_iconst C (v := 1) 26 rfl dX6_hasBlank_25 (by decide) ?_
        refine r_goto C 30 dX6_hasBlank_26 (by decide) ?_
        exact hj30 1 t4 h
      clear hj25E
      refine r_if_ne C 25 16 rfl dX6_hasBlank_13 (by decide) h (fun h => ?_) (fun h => ?_)
      · refine r_lv [0, 2] rfl ?_
        exact hj25 t0 h
      · refine r_aload_n C (x := some a0) 17 rfl 0 dX6_hasBlank_16 rfl ?_
        refine r_getR C 20 rfl ff_X6_7 dX6_hasBlank_17 h (fun r5 h => ?_)
        refine r_iload_n C 21 rfl 2 dX6_hasBlank_20 rfl ?_
        replace h := jdr_some h
        obtain ⟨b6, hr, h⟩ := h
        rw [hr]
        refine r_iald C 22 rfl dX6_hasBlank_21 h (fun x7 h => ?_)
        refine r_if_ne C 29 25 rfl dX6_hasBlank_22 (by decide) h (fun h => ?_) (fun h => ?_)
        · refine r_iconst C (v := 0) 30 rfl dX6_hasBlank_29 (by decide) ?_
          refine r_lv [0, 2] rfl ?_
          exact hj30 0 t0 h
        · refine r_lv [0, 2] rfl ?_
          exact hj25 t0 h
set_option maxHeartbeats 4000000 in
set_option maxRecDepth 100000 in
theorem k_X6_hasBlank (l : Launch) (hst : l.stackTraces = false) (g : jG)   (a0 : Nat) (σ : Hp) (o : jO) (τ : Hp) (h : J_X6_hasBlank a0 σ = some (o, τ)) : jMet l g yX6_hasBlank (Cond.code yX6_hasBlank cX6_hasBlank 3 (some FieldType.boolean) :: gT) ({ frames := 1, cells := 0, slots := 0, locals := 12 } : Room) 0 0 [.ref a0] σ o τ := by
  refine j_start l hst (own := RX6) (by decide) rfl (Nat.le_of_ble_eq_true rfl) ?_
  intro p e s m args below meth c C hE hin
  unfold J_X6_hasBlank at h
  show jW p l e ({ frames := 1, cells := 0, slots := 0, locals := 12 } : Room) s m args below meth c g (jQ below g o τ args s 0 0) 0 0 0 [(0, .ref a0)] [] σ
  refine r_iconst C (v := 0) 1 rfl dX6_hasBlank_0 (by decide) ?_
  refine r_istore_n C 2 rfl [(1, .int 0), (0, .ref a0)] dX6_hasBlank_1 (by decide) rfl ?_
  refine r_iconst C (v := 0) 3 rfl dX6_hasBlank_2 (by decide) ?_
  refine r_istore_n C 4 rfl [(2, .int 0), (1, .int 0), (0, .ref a0)] dX6_hasBlank_3 (by decide) rfl ?_
  refine r_lv [2, 1, 0] rfl ?_
  refine w_X6_hasBlank_L4 l hst  C hE  jN a0 0 0 σ h

def J_X6_ruleLetters_L25b   (rc : Nat → Int32 → Int32 → Hp → jR) (a0 : Nat) (v1 : Int32) (v2 : Int32) (t0 : Hp) : jR := (if 4 ≤ v2 then some (.inl (some (.int v1)), t0) else jgI t0 a0 6 2 (fun x8 => jj (fun (x9 : Int32) (t10 : Hp) => rc a0 ((27 * v1) + x9) (v2 + 1) t10) (fun j52 => (if x8 ≤ v2 then j52 0 t0 else jgR t0 a0 6 1 (fun r11 => jdr r11 (fun b12 => jaI t0 b12 v2 (fun x13 => j52 x13 t0)))))))
def J_X6_ruleLetters_L25   : Nat → Nat → Int32 → Int32 → Hp → jR
  | 0 => fun _ _ _ _ => none
  | n + 1 => J_X6_ruleLetters_L25b   (J_X6_ruleLetters_L25   n)
def J_X6_ruleLetters  (a0 : Nat) (σ : Hp) : jR := jgI σ a0 6 2 (fun x1 => jcs (J_X6_in x1 1 4 σ) (fun w3 t2 => jvI w3 (fun x4 => (if x4 = 0 then some (.inl (some (.int ((-1)))), t2) else jcv t2 a0 6 (J_X6_hasBlank a0 t2) (fun w6 t5 => jvI w6 (fun x7 => (if x7 = 0 then J_X6_ruleLetters_L25   jN a0 0 0 t5 else some (.inl (some (.int ((-1)))), t5)))) (fun E t => some (.inr E, t))))) (fun E t => some (.inr E, t)))
set_option maxHeartbeats 4000000 in
set_option maxRecDepth 100000 in
theorem w_X6_ruleLetters_L25 (l : Launch) (hst : l.stackTraces = false) {p : Program} {e : Env} {s : State} {m : MethodId} {args : Array Value} {below : List Frame} {meth : Method} {c : Code} {g : jG} {o : jO} {τ : Hp}  (C : jC p l s m args meth c g RX6 cX6_ruleLetters 3 (some FieldType.int)) (hE : ∀ x ∈ c.exceptionTable.toList, False)  : ∀ (n : Nat) (a0 : Nat) (v1 : Int32) (v2 : Int32) (t0 : Hp), J_X6_ruleLetters_L25   n a0 v1 v2 t0 = some (o, τ) → jW p l e ({ frames := 2, cells := 0, slots := 0, locals := 34 } : Room) s m args below meth c g (jQ below g o τ args s 0 0) 0 0 25 [(0, .ref a0), (1, .int v1), (2, .int v2)] [] t0 := by
  intro n
  induction n with
  | zero => intro a0 v1 v2 t0 h; cases h
  | succ n ih =>
    intro a0 v1 v2 t0 h
    have h : J_X6_ruleLetters_L25b   (J_X6_ruleLetters_L25   n) a0 v1 v2 t0 = some (o, τ) := h
    unfold J_X6_ruleLetters_L25b at h
    refine r_iload_n C 26 rfl 2 dX6_ruleLetters_25 rfl ?_
    refine r_iconst C (v := 4) 27 rfl dX6_ruleLetters_26 (by decide) ?_
    refine r_icmp_ge C 60 30 rfl dX6_ruleLetters_27 (by decide) h (fun h => ?_) (fun h => ?_)
    · refine r_iload_n C 61 rfl 1 dX6_ruleLetters_60 rfl ?_
      exact r_iret C dX6_ruleLetters_61 (Nat.le_refl _) (Nat.le_refl _) h
    · refine r_bipush C (v := 27) 32 rfl dX6_ruleLetters_30 (by decide) ?_
      refine r_iload_n C 33 rfl 1 dX6_ruleLetters_32 rfl ?_
      refine r_imul C 34 rfl dX6_ruleLetters_33 ?_
      refine r_iload_n C 35 rfl 2 dX6_ruleLetters_34 rfl ?_
      refine r_aload_n C (x := some a0) 36 rfl 0 dX6_ruleLetters_35 rfl ?_
      refine r_getI C 39 rfl ff_X6_81 dX6_ruleLetters_36 h (fun x8 h => ?_)
      obtain ⟨j52, hj52E, h⟩ := jj_some h
      have hj52 : ∀ (x9 : Int32) (t10 : Hp), j52 x9 t10 = some (o, τ) → jW p l e ({ frames := 2, cells := 0, slots := 0, locals := 34 } : Room) s m args below meth c g (jQ below g o τ args s 0 0) 0 0 52 [(0, .ref a0), (2, .int v2)] [.int x9, .int (27 * v1)] t10 := by
        subst hj52E
        intro x9 t10 h
        refine r_iadd C 53 rfl dX6_ruleLetters_52 ?_
        refine r_istore_n C 54 rfl [(1, .int ((27 * v1) + x9)), (0, .ref a0), (2, .int v2)] dX6_ruleLetters_53 (by decide) rfl ?_
        refine r_iinc C (v := v2 + 1) 57 rfl 2 [(2, .int (v2 + 1)), (1, .int ((27 * v1) + x9)), (0, .ref a0)] dX6_ruleLetters_54 rfl rfl (by decide) rfl ?_
        refine r_goto C 25 dX6_ruleLetters_57 (by decide) ?_
        refine r_lv [2, 1, 0] rfl ?_
        exact ih a0 ((27 * v1) + x9) (v2 + 1) t10 h
      clear hj52E
      refine r_icmp_ge C 51 42 rfl dX6_ruleLetters_39 (by decide) h (fun h => ?_) (fun h => ?_)
      · refine r_iconst C (v := 0) 52 rfl dX6_ruleLetters_51 (by decide) ?_
        refine r_lv [0, 2] rfl ?_
        exact hj52 0 t0 h
      · refine r_aload_n C (x := some a0) 43 rfl 0 dX6_ruleLetters_42 rfl ?_
        refine r_getR C 46 rfl ff_X6_7 dX6_ruleLetters_43 h (fun r11 h => ?_)
        refine r_iload_n C 47 rfl 2 dX6_ruleLetters_46 rfl ?_
        replace h := jdr_some h
        obtain ⟨b12, hr, h⟩ := h
        rw [hr]
        refine r_iald C 48 rfl dX6_ruleLetters_47 h (fun x13 h => ?_)
        refine r_goto C 52 dX6_ruleLetters_48 (by decide) ?_
        refine r_lv [0, 2] rfl ?_
        exact hj52 x13 t0 h
set_option maxHeartbeats 4000000 in
set_option maxRecDepth 100000 in
theorem k_X6_ruleLetters (l : Launch) (hst : l.stackTraces = false) (g : jG)   (a0 : Nat) (σ : Hp) (o : jO) (τ : Hp) (h : J_X6_ruleLetters a0 σ = some (o, τ)) : jMet l g yX6_ruleLetters (Cond.code yX6_ruleLetters cX6_ruleLetters 3 (some FieldType.int) :: gT) ({ frames := 2, cells := 0, slots := 0, locals := 34 } : Room) 0 0 [.ref a0] σ o τ := by
  refine j_start l hst (own := RX6) (by decide) rfl (Nat.le_of_ble_eq_true rfl) ?_
  intro p e s m args below meth c C hE hin
  unfold J_X6_ruleLetters at h
  show jW p l e ({ frames := 2, cells := 0, slots := 0, locals := 34 } : Room) s m args below meth c g (jQ below g o τ args s 0 0) 0 0 0 [(0, .ref a0)] [] σ
  refine r_aload_n C (x := some a0) 1 rfl 0 dX6_ruleLetters_0 rfl ?_
  refine r_getI C 4 rfl ff_X6_81 dX6_ruleLetters_1 h (fun x1 h => ?_)
  refine r_iconst C (v := 1) 5 rfl dX6_ruleLetters_4 (by decide) ?_
  refine r_iconst C (v := 4) 6 rfl dX6_ruleLetters_5 (by decide) ?_
  refine r_callS C mm_X6_77 st_yX6_in 9 0 0 rfl rfl rfl dX6_ruleLetters_6 rfl rfl (As := [.int x1, .int 1, .int 4]) rfl rfl (Nat.le_of_ble_eq_true rfl) ⟨Nat.le_of_ble_eq_true rfl, Nat.le_of_ble_eq_true rfl⟩ ⟨(Nat.le_of_ble_eq_true rfl), (Nat.le_of_ble_eq_true rfl)⟩ (fun o t h => k_X6_in l hst g _ _ _ _ o t h) h (fun w3 t2 h => ?_) (fun E t h => r_out C (fun x hx => (hE x hx).elim) (Nat.le_refl _) (Nat.le_refl _) h)
  replace h := jvI_some h
  obtain ⟨x4, rfl, h⟩ := h
  refine r_if_eq C 19 12 rfl dX6_ruleLetters_9 (by decide) h (fun h => ?_) (fun h => ?_)
  · refine r_iconst C (v := (-1)) 20 rfl dX6_ruleLetters_19 (by decide) ?_
    exact r_iret C dX6_ruleLetters_20 (Nat.le_refl _) (Nat.le_refl _) h
  · refine r_aload_n C (x := some a0) 13 rfl 0 dX6_ruleLetters_12 rfl ?_
    refine r_callV C (ci := 6) mm_X6_88 im_yX6_hasBlank se_yX6_hasBlank rfl 16 0 0 rfl rfl rfl dX6_ruleLetters_13 rfl rfl (As := []) rfl rfl (Nat.le_of_ble_eq_true rfl) ⟨Nat.le_of_ble_eq_true rfl, Nat.le_of_ble_eq_true rfl⟩ ⟨(Nat.le_of_ble_eq_true rfl), (Nat.le_of_ble_eq_true rfl)⟩ (fun o t h => k_X6_hasBlank l hst g _ _ o t h) h (fun w6 t5 h => ?_) (fun E t h => r_out C (fun x hx => (hE x hx).elim) (Nat.le_refl _) (Nat.le_refl _) h)
    replace h := jvI_some h
    obtain ⟨x7, rfl, h⟩ := h
    refine r_if_eq C 21 19 rfl dX6_ruleLetters_16 (by decide) h (fun h => ?_) (fun h => ?_)
    · refine r_iconst C (v := 0) 22 rfl dX6_ruleLetters_21 (by decide) ?_
      refine r_istore_n C 23 rfl [(1, .int 0), (0, .ref a0)] dX6_ruleLetters_22 (by decide) rfl ?_
      refine r_iconst C (v := 0) 24 rfl dX6_ruleLetters_23 (by decide) ?_
      refine r_istore_n C 25 rfl [(2, .int 0), (1, .int 0), (0, .ref a0)] dX6_ruleLetters_24 (by decide) rfl ?_
      refine r_lv [2, 1, 0] rfl ?_
      refine w_X6_ruleLetters_L25 l hst  C hE  jN a0 0 0 t5 h
    · refine r_iconst C (v := (-1)) 20 rfl dX6_ruleLetters_19 (by decide) ?_
      exact r_iret C dX6_ruleLetters_20 (Nat.le_refl _) (Nat.le_refl _) h

def J_X6_power  (v0 : Int32) (σ : Hp) : jR := (if v0 = 0 then some (.inl (some (.int 19683)), σ) else (if v0 = 1 then some (.inl (some (.int 729)), σ) else (if v0 = 2 then some (.inl (some (.int 27)), σ) else some (.inl (some (.int 1)), σ))))
set_option maxHeartbeats 4000000 in
set_option maxRecDepth 100000 in
theorem k_X6_power (l : Launch) (hst : l.stackTraces = false) (g : jG)   (v0 : Int32) (σ : Hp) (o : jO) (τ : Hp) (h : J_X6_power v0 σ = some (o, τ)) : jMet l g yX6_power (Cond.code yX6_power cX6_power 1 (some FieldType.int) :: gT) ({ frames := 1, cells := 0, slots := 0, locals := 12 } : Room) 0 0 [.int v0] σ o τ := by
  refine j_start l hst (own := RX6) (by decide) rfl (Nat.le_of_ble_eq_true rfl) ?_
  intro p e s m args below meth c C hE hin
  unfold J_X6_power at h
  show jW p l e ({ frames := 1, cells := 0, slots := 0, locals := 12 } : Room) s m args below meth c g (jQ below g o τ args s 0 0) 0 0 0 [(0, .int v0)] [] σ
  refine r_iload_n C 1 rfl 0 dX6_power_0 rfl ?_
  refine r_if_ne C 10 4 rfl dX6_power_1 (by decide) h (fun h => ?_) (fun h => ?_)
  · refine r_iload_n C 11 rfl 0 dX6_power_10 rfl ?_
    refine r_iconst C (v := 1) 12 rfl dX6_power_11 (by decide) ?_
    refine r_icmp_ne C 21 15 rfl dX6_power_12 (by decide) h (fun h => ?_) (fun h => ?_)
    · refine r_iload_n C 22 rfl 0 dX6_power_21 rfl ?_
      refine r_iconst C (v := 2) 23 rfl dX6_power_22 (by decide) ?_
      refine r_icmp_ne C 31 26 rfl dX6_power_23 (by decide) h (fun h => ?_) (fun h => ?_)
      · refine r_iconst C (v := 1) 32 rfl dX6_power_31 (by decide) ?_
        exact r_iret C dX6_power_32 (Nat.le_refl _) (Nat.le_refl _) h
      · refine r_bipush C (v := 27) 28 rfl dX6_power_26 (by decide) ?_
        refine r_goto C 32 dX6_power_28 (by decide) ?_
        exact r_iret C dX6_power_32 (Nat.le_refl _) (Nat.le_refl _) h
    · refine r_sipush C (v := 729) 18 rfl dX6_power_15 (by decide) ?_
      refine r_goto C 32 dX6_power_18 (by decide) ?_
      exact r_iret C dX6_power_32 (Nat.le_refl _) (Nat.le_refl _) h
  · refine r_sipush C (v := 19683) 7 rfl dX6_power_4 (by decide) ?_
    refine r_goto C 32 dX6_power_7 (by decide) ?_
    exact r_iret C dX6_power_32 (Nat.le_refl _) (Nat.le_refl _) h

def J_X6_letterOf  (a0 : Nat) (v1 : Int32) (v2 : Int32) (σ : Hp) : jR := jgR σ a0 6 3 (fun r1 => jdr r1 (fun b2 => jaI σ b2 v1 (fun x3 => jcs (J_X6_power v2 σ) (fun w5 t4 => jvI w5 (fun x6 => jnz x6 (some (.inl (some (.int ((x3 / x6) - (x3 / x6) / 27 * 27))), t4)))) (fun E t => some (.inr E, t)))))
set_option maxHeartbeats 4000000 in
set_option maxRecDepth 100000 in
theorem k_X6_letterOf (l : Launch) (hst : l.stackTraces = false) (g : jG)   (a0 : Nat) (v1 : Int32) (v2 : Int32) (σ : Hp) (o : jO) (τ : Hp) (h : J_X6_letterOf a0 v1 v2 σ = some (o, τ)) : jMet l g yX6_letterOf (Cond.code yX6_letterOf cX6_letterOf 3 (some FieldType.int) :: gT) ({ frames := 2, cells := 0, slots := 0, locals := 32 } : Room) 0 0 [.ref a0, .int v1, .int v2] σ o τ := by
  refine j_start l hst (own := RX6) (by decide) rfl (Nat.le_of_ble_eq_true rfl) ?_
  intro p e s m args below meth c C hE hin
  unfold J_X6_letterOf at h
  show jW p l e ({ frames := 2, cells := 0, slots := 0, locals := 32 } : Room) s m args below meth c g (jQ below g o τ args s 0 0) 0 0 0 [(0, .ref a0), (1, .int v1), (2, .int v2)] [] σ
  refine r_aload_n C (x := some a0) 1 rfl 0 dX6_letterOf_0 rfl ?_
  refine r_getR C 4 rfl ff_X6_13 dX6_letterOf_1 h (fun r1 h => ?_)
  refine r_iload_n C 5 rfl 1 dX6_letterOf_4 rfl ?_
  replace h := jdr_some h
  obtain ⟨b2, hr, h⟩ := h
  rw [hr]
  refine r_iald C 6 rfl dX6_letterOf_5 h (fun x3 h => ?_)
  refine r_iload_n C 7 rfl 2 dX6_letterOf_6 rfl ?_
  refine r_callS C mm_X6_92 st_yX6_power 10 0 0 rfl rfl rfl dX6_letterOf_7 rfl rfl (As := [.int v2]) rfl rfl (Nat.le_of_ble_eq_true rfl) ⟨Nat.le_of_ble_eq_true rfl, Nat.le_of_ble_eq_true rfl⟩ ⟨(Nat.le_of_ble_eq_true rfl), (Nat.le_of_ble_eq_true rfl)⟩ (fun o t h => k_X6_power l hst g _ _ o t h) h (fun w5 t4 h => ?_) (fun E t h => r_out C (fun x hx => (hE x hx).elim) (Nat.le_refl _) (Nat.le_refl _) h)
  replace h := jvI_some h
  obtain ⟨x6, rfl, h⟩ := h
  refine r_idivz C 11 rfl dX6_letterOf_10 h (fun h => ?_)
  refine r_bipush C (v := 27) 13 rfl dX6_letterOf_11 (by decide) ?_
  refine r_irem C 14 rfl dX6_letterOf_13 (by decide) ?_
  exact r_iret C dX6_letterOf_14 (Nat.le_refl _) (Nat.le_refl _) h

def J_X6_lengthOf_L4b   (rc : Nat → Int32 → Int32 → Int32 → Hp → jR) (a0 : Nat) (v1 : Int32) (v2 : Int32) (v3 : Int32) (t0 : Hp) : jR := (if 4 ≤ v3 then some (.inl (some (.int v2)), t0) else jcv t0 a0 6 (J_X6_letterOf a0 v1 v3 t0) (fun w2 t1 => jvI w2 (fun x3 => jj (fun (x4 : Int32) (t5 : Hp) => rc a0 v1 (v2 + x4) (v3 + 1) t5) (fun j24 => (if x3 ≤ 0 then j24 0 t1 else j24 1 t1)))) (fun E t => some (.inr E, t)))
def J_X6_lengthOf_L4   : Nat → Nat → Int32 → Int32 → Int32 → Hp → jR
  | 0 => fun _ _ _ _ _ => none
  | n + 1 => J_X6_lengthOf_L4b   (J_X6_lengthOf_L4   n)
def J_X6_lengthOf  (a0 : Nat) (v1 : Int32) (σ : Hp) : jR := J_X6_lengthOf_L4   jN a0 v1 0 0 σ
set_option maxHeartbeats 4000000 in
set_option maxRecDepth 100000 in
theorem w_X6_lengthOf_L4 (l : Launch) (hst : l.stackTraces = false) {p : Program} {e : Env} {s : State} {m : MethodId} {args : Array Value} {below : List Frame} {meth : Method} {c : Code} {g : jG} {o : jO} {τ : Hp}  (C : jC p l s m args meth c g RX6 cX6_lengthOf 4 (some FieldType.int)) (hE : ∀ x ∈ c.exceptionTable.toList, False)  : ∀ (n : Nat) (a0 : Nat) (v1 : Int32) (v2 : Int32) (v3 : Int32) (t0 : Hp), J_X6_lengthOf_L4   n a0 v1 v2 v3 t0 = some (o, τ) → jW p l e ({ frames := 3, cells := 0, slots := 0, locals := 54 } : Room) s m args below meth c g (jQ below g o τ args s 0 0) 0 0 4 [(0, .ref a0), (1, .int v1), (2, .int v2), (3, .int v3)] [] t0 := by
  intro n
  induction n with
  | zero => intro a0 v1 v2 v3 t0 h; cases h
  | succ n ih =>
    intro a0 v1 v2 v3 t0 h
    have h : J_X6_lengthOf_L4b   (J_X6_lengthOf_L4   n) a0 v1 v2 v3 t0 = some (o, τ) := h
    unfold J_X6_lengthOf_L4b at h
    refine r_iload_n C 5 rfl 3 dX6_lengthOf_4 rfl ?_
    refine r_iconst C (v := 4) 6 rfl dX6_lengthOf_5 (by decide) ?_
    refine r_icmp_ge C 32 9 rfl dX6_lengthOf_6 (by decide) h (fun h => ?_) (fun h => ?_)
    · refine r_iload_n C 33 rfl 2 dX6_lengthOf_32 rfl ?_
      exact r_iret C dX6_lengthOf_33 (Nat.le_refl _) (Nat.le_refl _) h
    · refine r_iload_n C 10 rfl 2 dX6_lengthOf_9 rfl ?_
      refine r_aload_n C (x := some a0) 11 rfl 0 dX6_lengthOf_10 rfl ?_
      refine r_iload_n C 12 rfl 1 dX6_lengthOf_11 rfl ?_
      refine r_iload_n C 13 rfl 3 dX6_lengthOf_12 rfl ?_
      refine r_callV C (ci := 6) mm_X6_96 im_yX6_letterOf se_yX6_letterOf rfl 16 0 0 rfl rfl rfl dX6_lengthOf_13 rfl rfl (As := [.int v1, .int v3]) rfl rfl (Nat.le_of_ble_eq_true rfl) ⟨Nat.le_of_ble_eq_true rfl, Nat.le_of_ble_eq_true rfl⟩ ⟨(Nat.le_of_ble_eq_true rfl), (Nat.le_of_ble_eq_true rfl)⟩ (fun o t h => k_X6_letterOf l hst g _ _ _ _ o t h) h (fun w2 t1 h => ?_) (fun E t h => r_out C (fun x hx => (hE x hx).elim) (Nat.le_refl _) (Nat.le_refl _) h)
      replace h := jvI_some h
      obtain ⟨x3, rfl, h⟩ := h
      obtain ⟨j24, hj24E, h⟩ := jj_some h
      have hj24 : ∀ (x4 : Int32) (t5 : Hp), j24 x4 t5 = some (o, τ) → jW p l e ({ frames := 3, cells := 0, slots := 0, locals := 54 } : Room) s m args below meth c g (jQ below g o τ args s 0 0) 0 0 24 [(0, .ref a0), (1, .int v1), (3, .int v3)] [.int x4, .int v2] t5 := by
        subst hj24E
        intro x4 t5 h
        refine r_iadd C 25 rfl dX6_lengthOf_24 ?_
        refine r_istore_n C 26 rfl [(2, .int (v2 + x4)), (0, .ref a0), (1, .int v1), (3, .int v3)] dX6_lengthOf_25 (by decide) rfl ?_
        refine r_iinc C (v := v3 + 1) 29 rfl 3 [(3, .int (v3 + 1)), (2, .int (v2 + x4)), (0, .ref a0), (1, .int v1)] dX6_lengthOf_26 rfl rfl (by decide) rfl ?_
        refine r_goto C 4 dX6_lengthOf_29 (by decide) ?_
        refine r_lv [2, 3, 1, 0] rfl ?_
        exact ih a0 v1 (v2 + x4) (v3 + 1) t5 h
      clear hj24E
      refine r_if_le C 23 19 rfl dX6_lengthOf_16 (by decide) h (fun h => ?_) (fun h => ?_)
      · refine r_iconst C (v := 0) 24 rfl dX6_lengthOf_23 (by decide) ?_
        refine r_lv [0, 1, 3] rfl ?_
        exact hj24 0 t1 h
      · refine r_iconst C (v := 1) 20 rfl dX6_lengthOf_19 (by decide) ?_
        refine r_goto C 24 dX6_lengthOf_20 (by decide) ?_
        refine r_lv [0, 1, 3] rfl ?_
        exact hj24 1 t1 h
set_option maxHeartbeats 4000000 in
set_option maxRecDepth 100000 in
theorem k_X6_lengthOf (l : Launch) (hst : l.stackTraces = false) (g : jG)   (a0 : Nat) (v1 : Int32) (σ : Hp) (o : jO) (τ : Hp) (h : J_X6_lengthOf a0 v1 σ = some (o, τ)) : jMet l g yX6_lengthOf (Cond.code yX6_lengthOf cX6_lengthOf 4 (some FieldType.int) :: gT) ({ frames := 3, cells := 0, slots := 0, locals := 54 } : Room) 0 0 [.ref a0, .int v1] σ o τ := by
  refine j_start l hst (own := RX6) (by decide) rfl (Nat.le_of_ble_eq_true rfl) ?_
  intro p e s m args below meth c C hE hin
  unfold J_X6_lengthOf at h
  show jW p l e ({ frames := 3, cells := 0, slots := 0, locals := 54 } : Room) s m args below meth c g (jQ below g o τ args s 0 0) 0 0 0 [(0, .ref a0), (1, .int v1)] [] σ
  refine r_iconst C (v := 0) 1 rfl dX6_lengthOf_0 (by decide) ?_
  refine r_istore_n C 2 rfl [(2, .int 0), (0, .ref a0), (1, .int v1)] dX6_lengthOf_1 (by decide) rfl ?_
  refine r_iconst C (v := 0) 3 rfl dX6_lengthOf_2 (by decide) ?_
  refine r_istore_n C 4 rfl [(3, .int 0), (2, .int 0), (0, .ref a0), (1, .int v1)] dX6_lengthOf_3 (by decide) rfl ?_
  refine r_lv [2, 3, 1, 0] rfl ?_
  refine w_X6_lengthOf_L4 l hst  C hE  jN a0 v1 0 0 σ h

def J_X6_ruleOf_L4b   (rc : Nat → Int32 → Int32 → Int32 → Hp → jR) (a0 : Nat) (v1 : Int32) (v2 : Int32) (v3 : Int32) (t0 : Hp) : jR := jgI t0 a0 6 7 (fun x1 => (if x1 ≤ v3 then some (.inl (some (.int v2)), t0) else jgR t0 a0 6 3 (fun r2 => jdr r2 (fun b3 => jaI t0 b3 v3 (fun x4 => jj (fun (x5 : Int32) (t6 : Hp) => rc a0 v1 x5 (v3 + 1) t6) (fun j27 => (if x4 = v1 then j27 v3 t0 else j27 v2 t0)))))))
def J_X6_ruleOf_L4   : Nat → Nat → Int32 → Int32 → Int32 → Hp → jR
  | 0 => fun _ _ _ _ _ => none
  | n + 1 => J_X6_ruleOf_L4b   (J_X6_ruleOf_L4   n)
def J_X6_ruleOf  (a0 : Nat) (v1 : Int32) (σ : Hp) : jR := J_X6_ruleOf_L4   jN a0 v1 ((-1)) 0 σ
set_option maxHeartbeats 4000000 in
set_option maxRecDepth 100000 in
theorem w_X6_ruleOf_L4 (l : Launch) (hst : l.stackTraces = false) {p : Program} {e : Env} {s : State} {m : MethodId} {args : Array Value} {below : List Frame} {meth : Method} {c : Code} {g : jG} {o : jO} {τ : Hp}  (C : jC p l s m args meth c g RX6 cX6_ruleOf 4 (some FieldType.int)) (hE : ∀ x ∈ c.exceptionTable.toList, False)  : ∀ (n : Nat) (a0 : Nat) (v1 : Int32) (v2 : Int32) (v3 : Int32) (t0 : Hp), J_X6_ruleOf_L4   n a0 v1 v2 v3 t0 = some (o, τ) → jW p l e ({ frames := 1, cells := 0, slots := 0, locals := 12 } : Room) s m args below meth c g (jQ below g o τ args s 0 0) 0 0 4 [(0, .ref a0), (1, .int v1), (2, .int v2), (3, .int v3)] [] t0 := by
  intro n
  induction n with
  | zero => intro a0 v1 v2 v3 t0 h; cases h
  | succ n ih =>
    intro a0 v1 v2 v3 t0 h
    have h : J_X6_ruleOf_L4b   (J_X6_ruleOf_L4   n) a0 v1 v2 v3 t0 = some (o, τ) := h
    unfold J_X6_ruleOf_L4b at h
    refine r_iload_n C 5 rfl 3 dX6_ruleOf_4 rfl ?_
    refine r_aload_n C (x := some a0) 6 rfl 0 dX6_ruleOf_5 rfl ?_
    refine r_getI C 9 rfl ff_X6_100 dX6_ruleOf_6 h (fun x1 h => ?_)
    refine r_icmp_ge C 34 12 rfl dX6_ruleOf_9 (by decide) h (fun h => ?_) (fun h => ?_)
    · refine r_iload_n C 35 rfl 2 dX6_ruleOf_34 rfl ?_
      exact r_iret C dX6_ruleOf_35 (Nat.le_refl _) (Nat.le_refl _) h
    · refine r_aload_n C (x := some a0) 13 rfl 0 dX6_ruleOf_12 rfl ?_
      refine r_getR C 16 rfl ff_X6_13 dX6_ruleOf_13 h (fun r2 h => ?_)
      refine r_iload_n C 17 rfl 3 dX6_ruleOf_16 rfl ?_
      replace h := jdr_some h
      obtain ⟨b3, hr, h⟩ := h
      rw [hr]
      refine r_iald C 18 rfl dX6_ruleOf_17 h (fun x4 h => ?_)
      refine r_iload_n C 19 rfl 1 dX6_ruleOf_18 rfl ?_
      obtain ⟨j27, hj27E, h⟩ := jj_some h
      have hj27 : ∀ (x5 : Int32) (t6 : Hp), j27 x5 t6 = some (o, τ) → jW p l e ({ frames := 1, cells := 0, slots := 0, locals := 12 } : Room) s m args below meth c g (jQ below g o τ args s 0 0) 0 0 27 [(0, .ref a0), (1, .int v1), (3, .int v3)] [.int x5] t6 := by
        subst hj27E
        intro x5 t6 h
        refine r_istore_n C 28 rfl [(2, .int x5), (0, .ref a0), (1, .int v1), (3, .int v3)] dX6_ruleOf_27 (by decide) rfl ?_
        refine r_iinc C (v := v3 + 1) 31 rfl 3 [(3, .int (v3 + 1)), (2, .int x5), (0, .ref a0), (1, .int v1)] dX6_ruleOf_28 rfl rfl (by decide) rfl ?_
        refine r_goto C 4 dX6_ruleOf_31 (by decide) ?_
        refine r_lv [2, 3, 1, 0] rfl ?_
        exact ih a0 v1 x5 (v3 + 1) t6 h
      clear hj27E
      refine r_icmp_ne C 26 22 rfl dX6_ruleOf_19 (by decide) h (fun h => ?_) (fun h => ?_)
      · refine r_iload_n C 27 rfl 2 dX6_ruleOf_26 rfl ?_
        refine r_lv [0, 1, 3] rfl ?_
        exact hj27 v2 t0 h
      · refine r_iload_n C 23 rfl 3 dX6_ruleOf_22 rfl ?_
        refine r_goto C 27 dX6_ruleOf_23 (by decide) ?_
        refine r_lv [0, 1, 3] rfl ?_
        exact hj27 v3 t0 h
set_option maxHeartbeats 4000000 in
set_option maxRecDepth 100000 in
theorem k_X6_ruleOf (l : Launch) (hst : l.stackTraces = false) (g : jG)   (a0 : Nat) (v1 : Int32) (σ : Hp) (o : jO) (τ : Hp) (h : J_X6_ruleOf a0 v1 σ = some (o, τ)) : jMet l g yX6_ruleOf (Cond.code yX6_ruleOf cX6_ruleOf 4 (some FieldType.int) :: gT) ({ frames := 1, cells := 0, slots := 0, locals := 12 } : Room) 0 0 [.ref a0, .int v1] σ o τ := by
  refine j_start l hst (own := RX6) (by decide) rfl (Nat.le_of_ble_eq_true rfl) ?_
  intro p e s m args below meth c C hE hin
  unfold J_X6_ruleOf at h
  show jW p l e ({ frames := 1, cells := 0, slots := 0, locals := 12 } : Room) s m args below meth c g (jQ below g o τ args s 0 0) 0 0 0 [(0, .ref a0), (1, .int v1)] [] σ
  refine r_iconst C (v := (-1)) 1 rfl dX6_ruleOf_0 (by decide) ?_
  refine r_istore_n C 2 rfl [(2, .int ((-1))), (0, .ref a0), (1, .int v1)] dX6_ruleOf_1 (by decide) rfl ?_
  refine r_iconst C (v := 0) 3 rfl dX6_ruleOf_2 (by decide) ?_
  refine r_istore_n C 4 rfl [(3, .int 0), (2, .int ((-1))), (0, .ref a0), (1, .int v1)] dX6_ruleOf_3 (by decide) rfl ?_
  refine r_lv [2, 3, 1, 0] rfl ?_
  refine w_X6_ruleOf_L4 l hst  C hE  jN a0 v1 ((-1)) 0 σ h

def J_X6_areFine  (v0 : Int32) (v1 : Int32) (v2 : Int32) (σ : Hp) : jR := jcs (J_X6_in v0 1 2 σ) (fun w2 t1 => jvI w2 (fun x3 => (if x3 = 0 then jrt .boolean 0 t1 else jcs (J_X6_in v1 1 63 t1) (fun w5 t4 => jvI w5 (fun x6 => (if x6 = 0 then jrt .boolean 0 t4 else jcs (J_X6_in v2 0 63 t4) (fun w8 t7 => jvI w8 (fun x9 => (if x9 = 0 then jrt .boolean 0 t7 else jrt .boolean 1 t7))) (fun E t => some (.inr E, t))))) (fun E t => some (.inr E, t))))) (fun E t => some (.inr E, t))
set_option maxHeartbeats 4000000 in
set_option maxRecDepth 100000 in
theorem k_X6_areFine (l : Launch) (hst : l.stackTraces = false) (g : jG)   (v0 : Int32) (v1 : Int32) (v2 : Int32) (σ : Hp) (o : jO) (τ : Hp) (h : J_X6_areFine v0 v1 v2 σ = some (o, τ)) : jMet l g yX6_areFine (Cond.code yX6_areFine cX6_areFine 3 (some FieldType.boolean) :: gT) ({ frames := 2, cells := 0, slots := 0, locals := 34 } : Room) 0 0 [.int v0, .int v1, .int v2] σ o τ := by
  refine j_start l hst (own := RX6) (by decide) rfl (Nat.le_of_ble_eq_true rfl) ?_
  intro p e s m args below meth c C hE hin
  unfold J_X6_areFine at h
  show jW p l e ({ frames := 2, cells := 0, slots := 0, locals := 34 } : Room) s m args below meth c g (jQ below g o τ args s 0 0) 0 0 0 [(0, .int v0), (1, .int v1), (2, .int v2)] [] σ
  refine r_iload_n C 1 rfl 0 dX6_areFine_0 rfl ?_
  refine r_iconst C (v := 1) 2 rfl dX6_areFine_1 (by decide) ?_
  refine r_iconst C (v := 2) 3 rfl dX6_areFine_2 (by decide) ?_
  refine r_callS C mm_X6_77 st_yX6_in 6 0 0 rfl rfl rfl dX6_areFine_3 rfl rfl (As := [.int v0, .int 1, .int 2]) rfl rfl (Nat.le_of_ble_eq_true rfl) ⟨Nat.le_of_ble_eq_true rfl, Nat.le_of_ble_eq_true rfl⟩ ⟨(Nat.le_of_ble_eq_true rfl), (Nat.le_of_ble_eq_true rfl)⟩ (fun o t h => k_X6_in l hst g _ _ _ _ o t h) h (fun w2 t1 h => ?_) (fun E t h => r_out C (fun x hx => (hE x hx).elim) (Nat.le_refl _) (Nat.le_refl _) h)
  replace h := jvI_some h
  obtain ⟨x3, rfl, h⟩ := h
  refine r_if_eq C 33 9 rfl dX6_areFine_6 (by decide) h (fun h => ?_) (fun h => ?_)
  · refine r_iconst C (v := 0) 34 rfl dX6_areFine_33 (by decide) ?_
    exact r_zret C (fun _ => rfl) dX6_areFine_34 (Nat.le_refl _) (Nat.le_refl _) h
  · refine r_iload_n C 10 rfl 1 dX6_areFine_9 rfl ?_
    refine r_iconst C (v := 1) 11 rfl dX6_areFine_10 (by decide) ?_
    refine r_bipush C (v := 63) 13 rfl dX6_areFine_11 (by decide) ?_
    refine r_callS C mm_X6_77 st_yX6_in 16 0 0 rfl rfl rfl dX6_areFine_13 rfl rfl (As := [.int v1, .int 1, .int 63]) rfl rfl (Nat.le_of_ble_eq_true rfl) ⟨Nat.le_of_ble_eq_true rfl, Nat.le_of_ble_eq_true rfl⟩ ⟨(Nat.le_of_ble_eq_true rfl), (Nat.le_of_ble_eq_true rfl)⟩ (fun o t h => k_X6_in l hst g _ _ _ _ o t h) h (fun w5 t4 h => ?_) (fun E t h => r_out C (fun x hx => (hE x hx).elim) (Nat.le_refl _) (Nat.le_refl _) h)
    replace h := jvI_some h
    obtain ⟨x6, rfl, h⟩ := h
    refine r_if_eq C 33 19 rfl dX6_areFine_16 (by decide) h (fun h => ?_) (fun h => ?_)
    · refine r_iconst C (v := 0) 34 rfl dX6_areFine_33 (by decide) ?_
      exact r_zret C (fun _ => rfl) dX6_areFine_34 (Nat.le_refl _) (Nat.le_refl _) h
    · refine r_iload_n C 20 rfl 2 dX6_areFine_19 rfl ?_
      refine r_iconst C (v := 0) 21 rfl dX6_areFine_20 (by decide) ?_
      refine r_bipush C (v := 63) 23 rfl dX6_areFine_21 (by decide) ?_
      refine r_callS C mm_X6_77 st_yX6_in 26 0 0 rfl rfl rfl dX6_areFine_23 rfl rfl (As := [.int v2, .int 0, .int 63]) rfl rfl (Nat.le_of_ble_eq_true rfl) ⟨Nat.le_of_ble_eq_true rfl, Nat.le_of_ble_eq_true rfl⟩ ⟨(Nat.le_of_ble_eq_true rfl), (Nat.le_of_ble_eq_true rfl)⟩ (fun o t h => k_X6_in l hst g _ _ _ _ o t h) h (fun w8 t7 h => ?_) (fun E t h => r_out C (fun x hx => (hE x hx).elim) (Nat.le_refl _) (Nat.le_refl _) h)
      replace h := jvI_some h
      obtain ⟨x9, rfl, h⟩ := h
      refine r_if_eq C 33 29 rfl dX6_areFine_26 (by decide) h (fun h => ?_) (fun h => ?_)
      · refine r_iconst C (v := 0) 34 rfl dX6_areFine_33 (by decide) ?_
        exact r_zret C (fun _ => rfl) dX6_areFine_34 (Nat.le_refl _) (Nat.le_refl _) h
      · refine r_iconst C (v := 1) 30 rfl dX6_areFine_29 (by decide) ?_
        refine r_goto C 34 dX6_areFine_30 (by decide) ?_
        exact r_zret C (fun _ => rfl) dX6_areFine_34 (Nat.le_refl _) (Nat.le_refl _) h

def J_X6_moves  (a0 : Nat) (v1 : Int32) (v2 : Int32) (σ : Hp) : jR := jgR σ a0 6 3 (fun r1 => jgR σ a0 6 3 (fun r2 => jdr r2 (fun b3 => jaI σ b3 v1 (fun x4 => jdr r1 (fun b5 => jsI σ b5 v2 x4 (fun t6 => jgR t6 a0 6 4 (fun r7 => jgR t6 a0 6 4 (fun r8 => jdr r8 (fun b9 => jaI t6 b9 v1 (fun x10 => jdr r7 (fun b11 => jsI t6 b11 v2 x10 (fun t12 => jgR t12 a0 6 5 (fun r13 => jgR t12 a0 6 5 (fun r14 => jdr r14 (fun b15 => jaI t12 b15 v1 (fun x16 => jdr r13 (fun b17 => jsI t12 b17 v2 x16 (fun t18 => jgR t18 a0 6 6 (fun r19 => jgR t18 a0 6 6 (fun r20 => jdr r20 (fun b21 => jaI t18 b21 v1 (fun x22 => jdr r19 (fun b23 => jsI t18 b23 v2 x22 (fun t24 => some (.inl none, t24)))))))))))))))))))))))))
set_option maxHeartbeats 4000000 in
set_option maxRecDepth 100000 in
theorem k_X6_moves (l : Launch) (hst : l.stackTraces = false) (g : jG)   (a0 : Nat) (v1 : Int32) (v2 : Int32) (σ : Hp) (o : jO) (τ : Hp) (h : J_X6_moves a0 v1 v2 σ = some (o, τ)) : jMet l g yX6_moves (Cond.code yX6_moves cX6_moves 3 none :: gT) ({ frames := 1, cells := 0, slots := 0, locals := 12 } : Room) 0 0 [.ref a0, .int v1, .int v2] σ o τ := by
  refine j_start l hst (own := RX6) (by decide) rfl (Nat.le_of_ble_eq_true rfl) ?_
  intro p e s m args below meth c C hE hin
  unfold J_X6_moves at h
  show jW p l e ({ frames := 1, cells := 0, slots := 0, locals := 12 } : Room) s m args below meth c g (jQ below g o τ args s 0 0) 0 0 0 [(0, .ref a0), (1, .int v1), (2, .int v2)] [] σ
  refine r_aload_n C (x := some a0) 1 rfl 0 dX6_moves_0 rfl ?_
  refine r_getR C 4 rfl ff_X6_13 dX6_moves_1 h (fun r1 h => ?_)
  refine r_iload_n C 5 rfl 2 dX6_moves_4 rfl ?_
  refine r_aload_n C (x := some a0) 6 rfl 0 dX6_moves_5 rfl ?_
  refine r_getR C 9 rfl ff_X6_13 dX6_moves_6 h (fun r2 h => ?_)
  refine r_iload_n C 10 rfl 1 dX6_moves_9 rfl ?_
  replace h := jdr_some h
  obtain ⟨b3, hr, h⟩ := h
  rw [hr]
  refine r_iald C 11 rfl dX6_moves_10 h (fun x4 h => ?_)
  replace h := jdr_some h
  obtain ⟨b5, hr, h⟩ := h
  rw [hr]
  refine r_iast C 12 rfl dX6_moves_11 h (fun t6 h => ?_)
  refine r_aload_n C (x := some a0) 13 rfl 0 dX6_moves_12 rfl ?_
  refine r_getR C 16 rfl ff_X6_16 dX6_moves_13 h (fun r7 h => ?_)
  refine r_iload_n C 17 rfl 2 dX6_moves_16 rfl ?_
  refine r_aload_n C (x := some a0) 18 rfl 0 dX6_moves_17 rfl ?_
  refine r_getR C 21 rfl ff_X6_16 dX6_moves_18 h (fun r8 h => ?_)
  refine r_iload_n C 22 rfl 1 dX6_moves_21 rfl ?_
  replace h := jdr_some h
  obtain ⟨b9, hr, h⟩ := h
  rw [hr]
  refine r_iald C 23 rfl dX6_moves_22 h (fun x10 h => ?_)
  replace h := jdr_some h
  obtain ⟨b11, hr, h⟩ := h
  rw [hr]
  refine r_iast C 24 rfl dX6_moves_23 h (fun t12 h => ?_)
  refine r_aload_n C (x := some a0) 25 rfl 0 dX6_moves_24 rfl ?_
  refine r_getR C 28 rfl ff_X6_19 dX6_moves_25 h (fun r13 h => ?_)
  refine r_iload_n C 29 rfl 2 dX6_moves_28 rfl ?_
  refine r_aload_n C (x := some a0) 30 rfl 0 dX6_moves_29 rfl ?_
  refine r_getR C 33 rfl ff_X6_19 dX6_moves_30 h (fun r14 h => ?_)
  refine r_iload_n C 34 rfl 1 dX6_moves_33 rfl ?_
  replace h := jdr_some h
  obtain ⟨b15, hr, h⟩ := h
  rw [hr]
  refine r_iald C 35 rfl dX6_moves_34 h (fun x16 h => ?_)
  replace h := jdr_some h
  obtain ⟨b17, hr, h⟩ := h
  rw [hr]
  refine r_iast C 36 rfl dX6_moves_35 h (fun t18 h => ?_)
  refine r_aload_n C (x := some a0) 37 rfl 0 dX6_moves_36 rfl ?_
  refine r_getR C 40 rfl ff_X6_22 dX6_moves_37 h (fun r19 h => ?_)
  refine r_iload_n C 41 rfl 2 dX6_moves_40 rfl ?_
  refine r_aload_n C (x := some a0) 42 rfl 0 dX6_moves_41 rfl ?_
  refine r_getR C 45 rfl ff_X6_22 dX6_moves_42 h (fun r20 h => ?_)
  refine r_iload_n C 46 rfl 1 dX6_moves_45 rfl ?_
  replace h := jdr_some h
  obtain ⟨b21, hr, h⟩ := h
  rw [hr]
  refine r_iald C 47 rfl dX6_moves_46 h (fun x22 h => ?_)
  replace h := jdr_some h
  obtain ⟨b23, hr, h⟩ := h
  rw [hr]
  refine r_iast C 48 rfl dX6_moves_47 h (fun t24 h => ?_)
  exact r_vret C dX6_moves_48 (Nat.le_refl _) (Nat.le_refl _) h

def J_X6_puts  (a0 : Nat) (v1 : Int32) (v2 : Int32) (v3 : Int32) (v4 : Int32) (v5 : Int32) (σ : Hp) : jR := jgR σ a0 6 3 (fun r1 => jdr r1 (fun b2 => jsI σ b2 v1 v2 (fun t3 => jgR t3 a0 6 4 (fun r4 => jdr r4 (fun b5 => jsI t3 b5 v1 v3 (fun t6 => jgR t6 a0 6 5 (fun r7 => jdr r7 (fun b8 => jsI t6 b8 v1 v4 (fun t9 => jgR t9 a0 6 6 (fun r10 => jdr r10 (fun b11 => jsI t9 b11 v1 v5 (fun t12 => some (.inl none, t12)))))))))))))
set_option maxHeartbeats 4000000 in
set_option maxRecDepth 100000 in
theorem k_X6_puts (l : Launch) (hst : l.stackTraces = false) (g : jG)   (a0 : Nat) (v1 : Int32) (v2 : Int32) (v3 : Int32) (v4 : Int32) (v5 : Int32) (σ : Hp) (o : jO) (τ : Hp) (h : J_X6_puts a0 v1 v2 v3 v4 v5 σ = some (o, τ)) : jMet l g yX6_puts (Cond.code yX6_puts cX6_puts 6 none :: gT) ({ frames := 1, cells := 0, slots := 0, locals := 12 } : Room) 0 0 [.ref a0, .int v1, .int v2, .int v3, .int v4, .int v5] σ o τ := by
  refine j_start l hst (own := RX6) (by decide) rfl (Nat.le_of_ble_eq_true rfl) ?_
  intro p e s m args below meth c C hE hin
  unfold J_X6_puts at h
  show jW p l e ({ frames := 1, cells := 0, slots := 0, locals := 12 } : Room) s m args below meth c g (jQ below g o τ args s 0 0) 0 0 0 [(0, .ref a0), (1, .int v1), (2, .int v2), (3, .int v3), (4, .int v4), (5, .int v5)] [] σ
  refine r_aload_n C (x := some a0) 1 rfl 0 dX6_puts_0 rfl ?_
  refine r_getR C 4 rfl ff_X6_13 dX6_puts_1 h (fun r1 h => ?_)
  refine r_iload_n C 5 rfl 1 dX6_puts_4 rfl ?_
  refine r_iload_n C 6 rfl 2 dX6_puts_5 rfl ?_
  replace h := jdr_some h
  obtain ⟨b2, hr, h⟩ := h
  rw [hr]
  refine r_iast C 7 rfl dX6_puts_6 h (fun t3 h => ?_)
  refine r_aload_n C (x := some a0) 8 rfl 0 dX6_puts_7 rfl ?_
  refine r_getR C 11 rfl ff_X6_16 dX6_puts_8 h (fun r4 h => ?_)
  refine r_iload_n C 12 rfl 1 dX6_puts_11 rfl ?_
  refine r_iload_n C 13 rfl 3 dX6_puts_12 rfl ?_
  replace h := jdr_some h
  obtain ⟨b5, hr, h⟩ := h
  rw [hr]
  refine r_iast C 14 rfl dX6_puts_13 h (fun t6 h => ?_)
  refine r_aload_n C (x := some a0) 15 rfl 0 dX6_puts_14 rfl ?_
  refine r_getR C 18 rfl ff_X6_19 dX6_puts_15 h (fun r7 h => ?_)
  refine r_iload_n C 19 rfl 1 dX6_puts_18 rfl ?_
  refine r_iload C 21 rfl 4 dX6_puts_19 rfl ?_
  replace h := jdr_some h
  obtain ⟨b8, hr, h⟩ := h
  rw [hr]
  refine r_iast C 22 rfl dX6_puts_21 h (fun t9 h => ?_)
  refine r_aload_n C (x := some a0) 23 rfl 0 dX6_puts_22 rfl ?_
  refine r_getR C 26 rfl ff_X6_22 dX6_puts_23 h (fun r10 h => ?_)
  refine r_iload_n C 27 rfl 1 dX6_puts_26 rfl ?_
  refine r_iload C 29 rfl 5 dX6_puts_27 rfl ?_
  replace h := jdr_some h
  obtain ⟨b11, hr, h⟩ := h
  rw [hr]
  refine r_iast C 30 rfl dX6_puts_29 h (fun t12 h => ?_)
  exact r_vret C dX6_puts_30 (Nat.le_refl _) (Nat.le_refl _) h

def J_X6_isBegin  (a0 : Nat) (v1 : Int32) (v2 : Int32) (σ : Hp) : jR := jgR σ a0 6 11 (fun r1 => jdr r1 (fun b2 => jaI σ b2 ((80 * v1) + v2) (fun x3 => (if x3 ≤ 0 then jrt .boolean 0 σ else (if v2 = 0 then jrt .boolean 1 σ else jgR σ a0 6 11 (fun r4 => jdr r4 (fun b5 => jaI σ b5 (((80 * v1) + v2) - 1) (fun x6 => (if x6 = 0 then jrt .boolean 1 σ else jrt .boolean 0 σ)))))))))
set_option maxHeartbeats 4000000 in
set_option maxRecDepth 100000 in
theorem k_X6_isBegin (l : Launch) (hst : l.stackTraces = false) (g : jG)   (a0 : Nat) (v1 : Int32) (v2 : Int32) (σ : Hp) (o : jO) (τ : Hp) (h : J_X6_isBegin a0 v1 v2 σ = some (o, τ)) : jMet l g yX6_isBegin (Cond.code yX6_isBegin cX6_isBegin 4 (some FieldType.boolean) :: gT) ({ frames := 1, cells := 0, slots := 0, locals := 12 } : Room) 0 0 [.ref a0, .int v1, .int v2] σ o τ := by
  refine j_start l hst (own := RX6) (by decide) rfl (Nat.le_of_ble_eq_true rfl) ?_
  intro p e s m args below meth c C hE hin
  unfold J_X6_isBegin at h
  show jW p l e ({ frames := 1, cells := 0, slots := 0, locals := 12 } : Room) s m args below meth c g (jQ below g o τ args s 0 0) 0 0 0 [(0, .ref a0), (1, .int v1), (2, .int v2)] [] σ
  refine r_bipush C (v := 80) 2 rfl dX6_isBegin_0 (by decide) ?_
  refine r_iload_n C 3 rfl 1 dX6_isBegin_2 rfl ?_
  refine r_imul C 4 rfl dX6_isBegin_3 ?_
  refine r_iload_n C 5 rfl 2 dX6_isBegin_4 rfl ?_
  refine r_iadd C 6 rfl dX6_isBegin_5 ?_
  refine r_istore_n C 7 rfl [(3, .int ((80 * v1) + v2)), (0, .ref a0), (1, .int v1), (2, .int v2)] dX6_isBegin_6 (by decide) rfl ?_
  refine r_aload_n C (x := some a0) 8 rfl 1 dX6_isBegin_7 rfl ?_
  refine r_getR C 11 rfl ff_X6_31 dX6_isBegin_8 h (fun r1 h => ?_)
  refine r_iload_n C 12 rfl 0 dX6_isBegin_11 rfl ?_
  replace h := jdr_some h
  obtain ⟨b2, hr, h⟩ := h
  rw [hr]
  refine r_iald C 13 rfl dX6_isBegin_12 h (fun x3 h => ?_)
  refine r_if_le C 35 16 rfl dX6_isBegin_13 (by decide) h (fun h => ?_) (fun h => ?_)
  · refine r_iconst C (v := 0) 36 rfl dX6_isBegin_35 (by decide) ?_
    exact r_zret C (fun _ => rfl) dX6_isBegin_36 (Nat.le_refl _) (Nat.le_refl _) h
  · refine r_iload_n C 17 rfl 3 dX6_isBegin_16 rfl ?_
    refine r_if_eq C 31 20 rfl dX6_isBegin_17 (by decide) h (fun h => ?_) (fun h => ?_)
    · refine r_iconst C (v := 1) 32 rfl dX6_isBegin_31 (by decide) ?_
      refine r_goto C 36 dX6_isBegin_32 (by decide) ?_
      exact r_zret C (fun _ => rfl) dX6_isBegin_36 (Nat.le_refl _) (Nat.le_refl _) h
    · refine r_aload_n C (x := some a0) 21 rfl 1 dX6_isBegin_20 rfl ?_
      refine r_getR C 24 rfl ff_X6_31 dX6_isBegin_21 h (fun r4 h => ?_)
      refine r_iload_n C 25 rfl 0 dX6_isBegin_24 rfl ?_
      refine r_iconst C (v := 1) 26 rfl dX6_isBegin_25 (by decide) ?_
      refine r_isub C 27 rfl dX6_isBegin_26 ?_
      replace h := jdr_some h
      obtain ⟨b5, hr, h⟩ := h
      rw [hr]
      refine r_iald C 28 rfl dX6_isBegin_27 h (fun x6 h => ?_)
      refine r_if_ne C 35 31 rfl dX6_isBegin_28 (by decide) h (fun h => ?_) (fun h => ?_)
      · refine r_iconst C (v := 0) 36 rfl dX6_isBegin_35 (by decide) ?_
        exact r_zret C (fun _ => rfl) dX6_isBegin_36 (Nat.le_refl _) (Nat.le_refl _) h
      · refine r_iconst C (v := 1) 32 rfl dX6_isBegin_31 (by decide) ?_
        refine r_goto C 36 dX6_isBegin_32 (by decide) ?_
        exact r_zret C (fun _ => rfl) dX6_isBegin_36 (Nat.le_refl _) (Nat.le_refl _) h

def J_X6_wordsOf_L4b   (rc : Nat → Int32 → Int32 → Int32 → Hp → jR) (a0 : Nat) (v1 : Int32) (v2 : Int32) (v3 : Int32) (t0 : Hp) : jR := jgR t0 a0 6 12 (fun r1 => jdr r1 (fun b2 => jaI t0 b2 v1 (fun x3 => (if x3 ≤ v3 then some (.inl (some (.int v2)), t0) else jcv t0 a0 6 (J_X6_isBegin a0 v1 v3 t0) (fun w5 t4 => jvI w5 (fun x6 => jj (fun (x7 : Int32) (t8 : Hp) => rc a0 v1 (v2 + x7) (v3 + 1) t8) (fun j29 => (if x6 = 0 then j29 0 t4 else j29 1 t4)))) (fun E t => some (.inr E, t))))))
def J_X6_wordsOf_L4   : Nat → Nat → Int32 → Int32 → Int32 → Hp → jR
  | 0 => fun _ _ _ _ _ => none
  | n + 1 => J_X6_wordsOf_L4b   (J_X6_wordsOf_L4   n)
def J_X6_wordsOf  (a0 : Nat) (v1 : Int32) (σ : Hp) : jR := J_X6_wordsOf_L4   jN a0 v1 0 0 σ
set_option maxHeartbeats 4000000 in
set_option maxRecDepth 100000 in
theorem w_X6_wordsOf_L4 (l : Launch) (hst : l.stackTraces = false) {p : Program} {e : Env} {s : State} {m : MethodId} {args : Array Value} {below : List Frame} {meth : Method} {c : Code} {g : jG} {o : jO} {τ : Hp}  (C : jC p l s m args meth c g RX6 cX6_wordsOf 4 (some FieldType.int)) (hE : ∀ x ∈ c.exceptionTable.toList, False)  : ∀ (n : Nat) (a0 : Nat) (v1 : Int32) (v2 : Int32) (v3 : Int32) (t0 : Hp), J_X6_wordsOf_L4   n a0 v1 v2 v3 t0 = some (o, τ) → jW p l e ({ frames := 2, cells := 0, slots := 0, locals := 35 } : Room) s m args below meth c g (jQ below g o τ args s 0 0) 0 0 4 [(0, .ref a0), (1, .int v1), (2, .int v2), (3, .int v3)] [] t0 := by
  intro n
  induction n with
  | zero => intro a0 v1 v2 v3 t0 h; cases h
  | succ n ih =>
    intro a0 v1 v2 v3 t0 h
    have h : J_X6_wordsOf_L4b   (J_X6_wordsOf_L4   n) a0 v1 v2 v3 t0 = some (o, τ) := h
    unfold J_X6_wordsOf_L4b at h
    refine r_iload_n C 5 rfl 3 dX6_wordsOf_4 rfl ?_
    refine r_aload_n C (x := some a0) 6 rfl 0 dX6_wordsOf_5 rfl ?_
    refine r_getR C 9 rfl ff_X6_34 dX6_wordsOf_6 h (fun r1 h => ?_)
    refine r_iload_n C 10 rfl 1 dX6_wordsOf_9 rfl ?_
    replace h := jdr_some h
    obtain ⟨b2, hr, h⟩ := h
    rw [hr]
    refine r_iald C 11 rfl dX6_wordsOf_10 h (fun x3 h => ?_)
    refine r_icmp_ge C 37 14 rfl dX6_wordsOf_11 (by decide) h (fun h => ?_) (fun h => ?_)
    · refine r_iload_n C 38 rfl 2 dX6_wordsOf_37 rfl ?_
      exact r_iret C dX6_wordsOf_38 (Nat.le_refl _) (Nat.le_refl _) h
    · refine r_iload_n C 15 rfl 2 dX6_wordsOf_14 rfl ?_
      refine r_aload_n C (x := some a0) 16 rfl 0 dX6_wordsOf_15 rfl ?_
      refine r_iload_n C 17 rfl 1 dX6_wordsOf_16 rfl ?_
      refine r_iload_n C 18 rfl 3 dX6_wordsOf_17 rfl ?_
      refine r_callV C (ci := 6) mm_X6_139 im_yX6_isBegin se_yX6_isBegin rfl 21 0 0 rfl rfl rfl dX6_wordsOf_18 rfl rfl (As := [.int v1, .int v3]) rfl rfl (Nat.le_of_ble_eq_true rfl) ⟨Nat.le_of_ble_eq_true rfl, Nat.le_of_ble_eq_true rfl⟩ ⟨(Nat.le_of_ble_eq_true rfl), (Nat.le_of_ble_eq_true rfl)⟩ (fun o t h => k_X6_isBegin l hst g _ _ _ _ o t h) h (fun w5 t4 h => ?_) (fun E t h => r_out C (fun x hx => (hE x hx).elim) (Nat.le_refl _) (Nat.le_refl _) h)
      replace h := jvI_some h
      obtain ⟨x6, rfl, h⟩ := h
      obtain ⟨j29, hj29E, h⟩ := jj_some h
      have hj29 : ∀ (x7 : Int32) (t8 : Hp), j29 x7 t8 = some (o, τ) → jW p l e ({ frames := 2, cells := 0, slots := 0, locals := 35 } : Room) s m args below meth c g (jQ below g o τ args s 0 0) 0 0 29 [(0, .ref a0), (1, .int v1), (3, .int v3)] [.int x7, .int v2] t8 := by
        subst hj29E
        intro x7 t8 h
        refine r_iadd C 30 rfl dX6_wordsOf_29 ?_
        refine r_istore_n C 31 rfl [(2, .int (v2 + x7)), (0, .ref a0), (1, .int v1), (3, .int v3)] dX6_wordsOf_30 (by decide) rfl ?_
        refine r_iinc C (v := v3 + 1) 34 rfl 3 [(3, .int (v3 + 1)), (2, .int (v2 + x7)), (0, .ref a0), (1, .int v1)] dX6_wordsOf_31 rfl rfl (by decide) rfl ?_
        refine r_goto C 4 dX6_wordsOf_34 (by decide) ?_
        refine r_lv [2, 3, 1, 0] rfl ?_
        exact ih a0 v1 (v2 + x7) (v3 + 1) t8 h
      clear hj29E
      refine r_if_eq C 28 24 rfl dX6_wordsOf_21 (by decide) h (fun h => ?_) (fun h => ?_)
      · refine r_iconst C (v := 0) 29 rfl dX6_wordsOf_28 (by decide) ?_
        refine r_lv [0, 1, 3] rfl ?_
        exact hj29 0 t4 h
      · refine r_iconst C (v := 1) 25 rfl dX6_wordsOf_24 (by decide) ?_
        refine r_goto C 29 dX6_wordsOf_25 (by decide) ?_
        refine r_lv [0, 1, 3] rfl ?_
        exact hj29 1 t4 h
set_option maxHeartbeats 4000000 in
set_option maxRecDepth 100000 in
theorem k_X6_wordsOf (l : Launch) (hst : l.stackTraces = false) (g : jG)   (a0 : Nat) (v1 : Int32) (σ : Hp) (o : jO) (τ : Hp) (h : J_X6_wordsOf a0 v1 σ = some (o, τ)) : jMet l g yX6_wordsOf (Cond.code yX6_wordsOf cX6_wordsOf 4 (some FieldType.int) :: gT) ({ frames := 2, cells := 0, slots := 0, locals := 35 } : Room) 0 0 [.ref a0, .int v1] σ o τ := by
  refine j_start l hst (own := RX6) (by decide) rfl (Nat.le_of_ble_eq_true rfl) ?_
  intro p e s m args below meth c C hE hin
  unfold J_X6_wordsOf at h
  show jW p l e ({ frames := 2, cells := 0, slots := 0, locals := 35 } : Room) s m args below meth c g (jQ below g o τ args s 0 0) 0 0 0 [(0, .ref a0), (1, .int v1)] [] σ
  refine r_iconst C (v := 0) 1 rfl dX6_wordsOf_0 (by decide) ?_
  refine r_istore_n C 2 rfl [(2, .int 0), (0, .ref a0), (1, .int v1)] dX6_wordsOf_1 (by decide) rfl ?_
  refine r_iconst C (v := 0) 3 rfl dX6_wordsOf_2 (by decide) ?_
  refine r_istore_n C 4 rfl [(3, .int 0), (2, .int 0), (0, .ref a0), (1, .int v1)] dX6_wordsOf_3 (by decide) rfl ?_
  refine r_lv [2, 3, 1, 0] rfl ?_
  refine w_X6_wordsOf_L4 l hst  C hE  jN a0 v1 0 0 σ h

def J_X6_beginOf_L5b   (rc : Nat → Int32 → Int32 → Int32 → Hp → jR) (a0 : Nat) (v1 : Int32) (v3 : Int32) (v4 : Int32) (t0 : Hp) : jR := jcv t0 a0 6 (J_X6_isBegin a0 v1 v4 t0) (fun w2 t1 => jvI w2 (fun x3 => jj (fun (t4 : Hp) => jcv t4 a0 6 (J_X6_isBegin a0 v1 v4 t4) (fun w6 t5 => jvI w6 (fun x7 => jj (fun (x8 : Int32) (t9 : Hp) => rc a0 v1 (v3 - x8) (v4 + 1) t9) (fun j35 => (if x7 = 0 then j35 0 t5 else j35 1 t5)))) (fun E t => some (.inr E, t))) (fun j19 => (if x3 = 0 then j19 t1 else (if v3 ≤ 0 then some (.inl (some (.int ((80 * v1) + v4))), t1) else j19 t1))))) (fun E t => some (.inr E, t))
def J_X6_beginOf_L5   : Nat → Nat → Int32 → Int32 → Int32 → Hp → jR
  | 0 => fun _ _ _ _ _ => none
  | n + 1 => J_X6_beginOf_L5b   (J_X6_beginOf_L5   n)
def J_X6_beginOf  (a0 : Nat) (v1 : Int32) (v2 : Int32) (σ : Hp) : jR := J_X6_beginOf_L5   jN a0 v1 v2 0 σ
set_option maxHeartbeats 4000000 in
set_option maxRecDepth 100000 in
theorem w_X6_beginOf_L5 (l : Launch) (hst : l.stackTraces = false) {p : Program} {e : Env} {s : State} {m : MethodId} {args : Array Value} {below : List Frame} {meth : Method} {c : Code} {g : jG} {o : jO} {τ : Hp}  (C : jC p l s m args meth c g RX6 cX6_beginOf 5 (some FieldType.int)) (hE : ∀ x ∈ c.exceptionTable.toList, False)  : ∀ (n : Nat) (a0 : Nat) (v1 : Int32) (v3 : Int32) (v4 : Int32) (t0 : Hp), J_X6_beginOf_L5   n a0 v1 v3 v4 t0 = some (o, τ) → jW p l e ({ frames := 2, cells := 0, slots := 0, locals := 35 } : Room) s m args below meth c g (jQ below g o τ args s 0 0) 0 0 5 [(0, .ref a0), (1, .int v1), (3, .int v3), (4, .int v4)] [] t0 := by
  intro n
  induction n with
  | zero => intro a0 v1 v3 v4 t0 h; cases h
  | succ n ih =>
    intro a0 v1 v3 v4 t0 h
    have h : J_X6_beginOf_L5b   (J_X6_beginOf_L5   n) a0 v1 v3 v4 t0 = some (o, τ) := h
    unfold J_X6_beginOf_L5b at h
    refine r_aload_n C (x := some a0) 6 rfl 0 dX6_beginOf_5 rfl ?_
    refine r_iload_n C 7 rfl 1 dX6_beginOf_6 rfl ?_
    refine r_iload C 9 rfl 3 dX6_beginOf_7 rfl ?_
    refine r_callV C (ci := 6) mm_X6_139 im_yX6_isBegin se_yX6_isBegin rfl 12 0 0 rfl rfl rfl dX6_beginOf_9 rfl rfl (As := [.int v1, .int v4]) rfl rfl (Nat.le_of_ble_eq_true rfl) ⟨Nat.le_of_ble_eq_true rfl, Nat.le_of_ble_eq_true rfl⟩ ⟨(Nat.le_of_ble_eq_true rfl), (Nat.le_of_ble_eq_true rfl)⟩ (fun o t h => k_X6_isBegin l hst g _ _ _ _ o t h) h (fun w2 t1 h => ?_) (fun E t h => r_out C (fun x hx => (hE x hx).elim) (Nat.le_refl _) (Nat.le_refl _) h)
    replace h := jvI_some h
    obtain ⟨x3, rfl, h⟩ := h
    obtain ⟨j19, hj19E, h⟩ := jj_some h
    have hj19 : ∀ (t4 : Hp), j19 t4 = some (o, τ) → jW p l e ({ frames := 2, cells := 0, slots := 0, locals := 35 } : Room) s m args below meth c g (jQ below g o τ args s 0 0) 0 0 19 [(0, .ref a0), (1, .int v1), (3, .int v3), (4, .int v4)] [] t4 := by
      subst hj19E
      intro t4 h
      refine r_iload_n C 20 rfl 2 dX6_beginOf_19 rfl ?_
      refine r_aload_n C (x := some a0) 21 rfl 0 dX6_beginOf_20 rfl ?_
      refine r_iload_n C 22 rfl 1 dX6_beginOf_21 rfl ?_
      refine r_iload C 24 rfl 3 dX6_beginOf_22 rfl ?_
      refine r_callV C (ci := 6) mm_X6_139 im_yX6_isBegin se_yX6_isBegin rfl 27 0 0 rfl rfl rfl dX6_beginOf_24 rfl rfl (As := [.int v1, .int v4]) rfl rfl (Nat.le_of_ble_eq_true rfl) ⟨Nat.le_of_ble_eq_true rfl, Nat.le_of_ble_eq_true rfl⟩ ⟨(Nat.le_of_ble_eq_true rfl), (Nat.le_of_ble_eq_true rfl)⟩ (fun o t h => k_X6_isBegin l hst g _ _ _ _ o t h) h (fun w6 t5 h => ?_) (fun E t h => r_out C (fun x hx => (hE x hx).elim) (Nat.le_refl _) (Nat.le_refl _) h)
      replace h := jvI_some h
      obtain ⟨x7, rfl, h⟩ := h
      obtain ⟨j35, hj35E, h⟩ := jj_some h
      have hj35 : ∀ (x8 : Int32) (t9 : Hp), j35 x8 t9 = some (o, τ) → jW p l e ({ frames := 2, cells := 0, slots := 0, locals := 35 } : Room) s m args below meth c g (jQ below g o τ args s 0 0) 0 0 35 [(0, .ref a0), (1, .int v1), (4, .int v4)] [.int x8, .int v3] t9 := by
        subst hj35E
        intro x8 t9 h
        refine r_isub C 36 rfl dX6_beginOf_35 ?_
        refine r_istore_n C 37 rfl [(3, .int (v3 - x8)), (0, .ref a0), (1, .int v1), (4, .int v4)] dX6_beginOf_36 (by decide) rfl ?_
        refine r_iinc C (v := v4 + 1) 40 rfl 3 [(4, .int (v4 + 1)), (3, .int (v3 - x8)), (0, .ref a0), (1, .int v1)] dX6_beginOf_37 rfl rfl (by decide) rfl ?_
        refine r_goto C 5 dX6_beginOf_40 (by decide) ?_
        refine r_lv [2, 3, 1, 0] rfl ?_
        exact ih a0 v1 (v3 - x8) (v4 + 1) t9 h
      clear hj35E
      refine r_if_eq C 34 30 rfl dX6_beginOf_27 (by decide) h (fun h => ?_) (fun h => ?_)
      · refine r_iconst C (v := 0) 35 rfl dX6_beginOf_34 (by decide) ?_
        refine r_lv [0, 1, 3] rfl ?_
        exact hj35 0 t5 h
      · refine r_iconst C (v := 1) 31 rfl dX6_beginOf_30 (by decide) ?_
        refine r_goto C 35 dX6_beginOf_31 (by decide) ?_
        refine r_lv [0, 1, 3] rfl ?_
        exact hj35 1 t5 h
    clear hj19E
    refine r_if_eq C 19 15 rfl dX6_beginOf_12 (by decide) h (fun h => ?_) (fun h => ?_)
    · exact hj19 t1 h
    · refine r_iload_n C 16 rfl 2 dX6_beginOf_15 rfl ?_
      refine r_if_le C 43 19 rfl dX6_beginOf_16 (by decide) h (fun h => ?_) (fun h => ?_)
      · refine r_bipush C (v := 80) 45 rfl dX6_beginOf_43 (by decide) ?_
        refine r_iload_n C 46 rfl 1 dX6_beginOf_45 rfl ?_
        refine r_imul C 47 rfl dX6_beginOf_46 ?_
        refine r_iload C 49 rfl 3 dX6_beginOf_47 rfl ?_
        refine r_iadd C 50 rfl dX6_beginOf_49 ?_
        exact r_iret C dX6_beginOf_50 (Nat.le_refl _) (Nat.le_refl _) h
      · exact hj19 t1 h
set_option maxHeartbeats 4000000 in
set_option maxRecDepth 100000 in
theorem k_X6_beginOf (l : Launch) (hst : l.stackTraces = false) (g : jG)   (a0 : Nat) (v1 : Int32) (v2 : Int32) (σ : Hp) (o : jO) (τ : Hp) (h : J_X6_beginOf a0 v1 v2 σ = some (o, τ)) : jMet l g yX6_beginOf (Cond.code yX6_beginOf cX6_beginOf 5 (some FieldType.int) :: gT) ({ frames := 2, cells := 0, slots := 0, locals := 35 } : Room) 0 0 [.ref a0, .int v1, .int v2] σ o τ := by
  refine j_start l hst (own := RX6) (by decide) rfl (Nat.le_of_ble_eq_true rfl) ?_
  intro p e s m args below meth c C hE hin
  unfold J_X6_beginOf at h
  show jW p l e ({ frames := 2, cells := 0, slots := 0, locals := 35 } : Room) s m args below meth c g (jQ below g o τ args s 0 0) 0 0 0 [(0, .ref a0), (1, .int v1), (2, .int v2)] [] σ
  refine r_iload_n C 1 rfl 2 dX6_beginOf_0 rfl ?_
  refine r_istore_n C 2 rfl [(3, .int v2), (0, .ref a0), (1, .int v1), (2, .int v2)] dX6_beginOf_1 (by decide) rfl ?_
  refine r_iconst C (v := 0) 3 rfl dX6_beginOf_2 (by decide) ?_
  refine r_istore C 5 rfl [(4, .int 0), (3, .int v2), (0, .ref a0), (1, .int v1), (2, .int v2)] dX6_beginOf_3 (by decide) rfl ?_
  refine r_lv [2, 3, 1, 0] rfl ?_
  refine w_X6_beginOf_L5 l hst  C hE  jN a0 v1 v2 0 σ h

def J_X6_letterCount_L15b   (rc : Nat → Int32 → Int32 → Int32 → Hp → jR) (a0 : Nat) (v2 : Int32) (v3 : Int32) (v4 : Int32) (t0 : Hp) : jR := (if v3 ≤ (v2 + v4) then some (.inl (some (.int v4)), t0) else jgR t0 a0 6 11 (fun r4 => jdr r4 (fun b5 => jaI t0 b5 (v2 + v4) (fun x6 => (if x6 ≤ 0 then some (.inl (some (.int v4)), t0) else rc a0 v2 v3 (v4 + 1) t0)))))
def J_X6_letterCount_L15   : Nat → Nat → Int32 → Int32 → Int32 → Hp → jR
  | 0 => fun _ _ _ _ _ => none
  | n + 1 => J_X6_letterCount_L15b   (J_X6_letterCount_L15   n)
def J_X6_letterCount  (a0 : Nat) (v1 : Int32) (v2 : Int32) (σ : Hp) : jR := jgR σ a0 6 12 (fun r1 => jdr r1 (fun b2 => jaI σ b2 v1 (fun x3 => J_X6_letterCount_L15   jN a0 v2 ((80 * v1) + x3) 0 σ)))
set_option maxHeartbeats 4000000 in
set_option maxRecDepth 100000 in
theorem w_X6_letterCount_L15 (l : Launch) (hst : l.stackTraces = false) {p : Program} {e : Env} {s : State} {m : MethodId} {args : Array Value} {below : List Frame} {meth : Method} {c : Code} {g : jG} {o : jO} {τ : Hp}  (C : jC p l s m args meth c g RX6 cX6_letterCount 5 (some FieldType.int)) (hE : ∀ x ∈ c.exceptionTable.toList, False)  : ∀ (n : Nat) (a0 : Nat) (v2 : Int32) (v3 : Int32) (v4 : Int32) (t0 : Hp), J_X6_letterCount_L15   n a0 v2 v3 v4 t0 = some (o, τ) → jW p l e ({ frames := 1, cells := 0, slots := 0, locals := 12 } : Room) s m args below meth c g (jQ below g o τ args s 0 0) 0 0 15 [(0, .ref a0), (2, .int v2), (3, .int v3), (4, .int v4)] [] t0 := by
  intro n
  induction n with
  | zero => intro a0 v2 v3 v4 t0 h; cases h
  | succ n ih =>
    intro a0 v2 v3 v4 t0 h
    have h : J_X6_letterCount_L15b   (J_X6_letterCount_L15   n) a0 v2 v3 v4 t0 = some (o, τ) := h
    unfold J_X6_letterCount_L15b at h
    refine r_iload_n C 16 rfl 1 dX6_letterCount_15 rfl ?_
    refine r_iload C 18 rfl 3 dX6_letterCount_16 rfl ?_
    refine r_iadd C 19 rfl dX6_letterCount_18 ?_
    refine r_iload_n C 20 rfl 2 dX6_letterCount_19 rfl ?_
    refine r_icmp_ge C 41 23 rfl dX6_letterCount_20 (by decide) h (fun h => ?_) (fun h => ?_)
    · refine r_iload C 43 rfl 3 dX6_letterCount_41 rfl ?_
      exact r_iret C dX6_letterCount_43 (Nat.le_refl _) (Nat.le_refl _) h
    · refine r_aload_n C (x := some a0) 24 rfl 0 dX6_letterCount_23 rfl ?_
      refine r_getR C 27 rfl ff_X6_31 dX6_letterCount_24 h (fun r4 h => ?_)
      refine r_iload_n C 28 rfl 1 dX6_letterCount_27 rfl ?_
      refine r_iload C 30 rfl 3 dX6_letterCount_28 rfl ?_
      refine r_iadd C 31 rfl dX6_letterCount_30 ?_
      replace h := jdr_some h
      obtain ⟨b5, hr, h⟩ := h
      rw [hr]
      refine r_iald C 32 rfl dX6_letterCount_31 h (fun x6 h => ?_)
      refine r_if_le C 41 35 rfl dX6_letterCount_32 (by decide) h (fun h => ?_) (fun h => ?_)
      · refine r_iload C 43 rfl 3 dX6_letterCount_41 rfl ?_
        exact r_iret C dX6_letterCount_43 (Nat.le_refl _) (Nat.le_refl _) h
      · refine r_iinc C (v := v4 + 1) 38 rfl 3 [(4, .int (v4 + 1)), (0, .ref a0), (2, .int v2), (3, .int v3)] dX6_letterCount_35 rfl rfl (by decide) rfl ?_
        refine r_goto C 15 dX6_letterCount_38 (by decide) ?_
        refine r_lv [1, 2, 3, 0] rfl ?_
        exact ih a0 v2 v3 (v4 + 1) t0 h
set_option maxHeartbeats 4000000 in
set_option maxRecDepth 100000 in
theorem k_X6_letterCount (l : Launch) (hst : l.stackTraces = false) (g : jG)   (a0 : Nat) (v1 : Int32) (v2 : Int32) (σ : Hp) (o : jO) (τ : Hp) (h : J_X6_letterCount a0 v1 v2 σ = some (o, τ)) : jMet l g yX6_letterCount (Cond.code yX6_letterCount cX6_letterCount 5 (some FieldType.int) :: gT) ({ frames := 1, cells := 0, slots := 0, locals := 12 } : Room) 0 0 [.ref a0, .int v1, .int v2] σ o τ := by
  refine j_start l hst (own := RX6) (by decide) rfl (Nat.le_of_ble_eq_true rfl) ?_
  intro p e s m args below meth c C hE hin
  unfold J_X6_letterCount at h
  show jW p l e ({ frames := 1, cells := 0, slots := 0, locals := 12 } : Room) s m args below meth c g (jQ below g o τ args s 0 0) 0 0 0 [(0, .ref a0), (1, .int v1), (2, .int v2)] [] σ
  refine r_bipush C (v := 80) 2 rfl dX6_letterCount_0 (by decide) ?_
  refine r_iload_n C 3 rfl 1 dX6_letterCount_2 rfl ?_
  refine r_imul C 4 rfl dX6_letterCount_3 ?_
  refine r_aload_n C (x := some a0) 5 rfl 0 dX6_letterCount_4 rfl ?_
  refine r_getR C 8 rfl ff_X6_34 dX6_letterCount_5 h (fun r1 h => ?_)
  refine r_iload_n C 9 rfl 1 dX6_letterCount_8 rfl ?_
  replace h := jdr_some h
  obtain ⟨b2, hr, h⟩ := h
  rw [hr]
  refine r_iald C 10 rfl dX6_letterCount_9 h (fun x3 h => ?_)
  refine r_iadd C 11 rfl dX6_letterCount_10 ?_
  refine r_istore_n C 12 rfl [(3, .int ((80 * v1) + x3)), (0, .ref a0), (1, .int v1), (2, .int v2)] dX6_letterCount_11 (by decide) rfl ?_
  refine r_iconst C (v := 0) 13 rfl dX6_letterCount_12 (by decide) ?_
  refine r_istore C 15 rfl [(4, .int 0), (3, .int ((80 * v1) + x3)), (0, .ref a0), (1, .int v1), (2, .int v2)] dX6_letterCount_13 (by decide) rfl ?_
  refine r_lv [2, 4, 1, 0] rfl ?_
  refine w_X6_letterCount_L15 l hst  C hE  jN a0 v2 ((80 * v1) + x3) 0 σ h

def J_X6_isThis_L20b   (rc : Nat → Int32 → Int32 → Int32 → Int32 → Int32 → Hp → jR) (a0 : Nat) (v1 : Int32) (v2 : Int32) (v3 : Int32) (v4 : Int32) (v5 : Int32) (t0 : Hp) : jR := (if v3 ≤ v5 then jrt .boolean v4 t0 else (if v4 = 0 then jrt .boolean v4 t0 else jgR t0 a0 6 8 (fun r6 => jdr r6 (fun b7 => jaI t0 b7 ((80 * v1) + v5) (fun x8 => jgR t0 a0 6 11 (fun r9 => jdr r9 (fun b10 => jaI t0 b10 (v2 + v5) (fun x11 => jj (fun (x12 : Int32) (t13 : Hp) => rc a0 v1 v2 v3 x12 (v5 + 1) t13) (fun j60 => (if x8 = x11 then j60 1 t0 else j60 0 t0))))))))))
def J_X6_isThis_L20   : Nat → Nat → Int32 → Int32 → Int32 → Int32 → Int32 → Hp → jR
  | 0 => fun _ _ _ _ _ _ _ => none
  | n + 1 => J_X6_isThis_L20b   (J_X6_isThis_L20   n)
def J_X6_isThis  (a0 : Nat) (v1 : Int32) (v2 : Int32) (v3 : Int32) (σ : Hp) : jR := jgR σ a0 6 9 (fun r1 => jdr r1 (fun b2 => jaI σ b2 v1 (fun x3 => jj (fun (x4 : Int32) (t5 : Hp) => J_X6_isThis_L20   jN a0 v1 v2 v3 x4 0 t5) (fun j15 => (if x3 = v3 then j15 1 σ else j15 0 σ)))))
set_option maxHeartbeats 4000000 in
set_option maxRecDepth 100000 in
theorem w_X6_isThis_L20 (l : Launch) (hst : l.stackTraces = false) {p : Program} {e : Env} {s : State} {m : MethodId} {args : Array Value} {below : List Frame} {meth : Method} {c : Code} {g : jG} {o : jO} {τ : Hp}  (C : jC p l s m args meth c g RX6 cX6_isThis 6 (some FieldType.boolean)) (hE : ∀ x ∈ c.exceptionTable.toList, False)  : ∀ (n : Nat) (a0 : Nat) (v1 : Int32) (v2 : Int32) (v3 : Int32) (v4 : Int32) (v5 : Int32) (t0 : Hp), J_X6_isThis_L20   n a0 v1 v2 v3 v4 v5 t0 = some (o, τ) → jW p l e ({ frames := 1, cells := 0, slots := 0, locals := 12 } : Room) s m args below meth c g (jQ below g o τ args s 0 0) 0 0 20 [(0, .ref a0), (1, .int v1), (2, .int v2), (3, .int v3), (4, .int v4), (5, .int v5)] [] t0 := by
  intro n
  induction n with
  | zero => intro a0 v1 v2 v3 v4 v5 t0 h; cases h
  | succ n ih =>
    intro a0 v1 v2 v3 v4 v5 t0 h
    have h : J_X6_isThis_L20b   (J_X6_isThis_L20   n) a0 v1 v2 v3 v4 v5 t0 = some (o, τ) := h
    unfold J_X6_isThis_L20b at h
    refine r_iload C 22 rfl 5 dX6_isThis_20 rfl ?_
    refine r_iload_n C 23 rfl 3 dX6_isThis_22 rfl ?_
    refine r_icmp_ge C 68 26 rfl dX6_isThis_23 (by decide) h (fun h => ?_) (fun h => ?_)
    · refine r_iload C 70 rfl 4 dX6_isThis_68 rfl ?_
      exact r_zret C (fun _ => rfl) dX6_isThis_70 (Nat.le_refl _) (Nat.le_refl _) h
    · refine r_iload C 28 rfl 4 dX6_isThis_26 rfl ?_
      refine r_if_eq C 68 31 rfl dX6_isThis_28 (by decide) h (fun h => ?_) (fun h => ?_)
      · refine r_iload C 70 rfl 4 dX6_isThis_68 rfl ?_
        exact r_zret C (fun _ => rfl) dX6_isThis_70 (Nat.le_refl _) (Nat.le_refl _) h
      · refine r_aload_n C (x := some a0) 32 rfl 0 dX6_isThis_31 rfl ?_
        refine r_getR C 35 rfl ff_X6_25 dX6_isThis_32 h (fun r6 h => ?_)
        refine r_bipush C (v := 80) 37 rfl dX6_isThis_35 (by decide) ?_
        refine r_iload_n C 38 rfl 1 dX6_isThis_37 rfl ?_
        refine r_imul C 39 rfl dX6_isThis_38 ?_
        refine r_iload C 41 rfl 5 dX6_isThis_39 rfl ?_
        refine r_iadd C 42 rfl dX6_isThis_41 ?_
        replace h := jdr_some h
        obtain ⟨b7, hr, h⟩ := h
        rw [hr]
        refine r_iald C 43 rfl dX6_isThis_42 h (fun x8 h => ?_)
        refine r_aload_n C (x := some a0) 44 rfl 0 dX6_isThis_43 rfl ?_
        refine r_getR C 47 rfl ff_X6_31 dX6_isThis_44 h (fun r9 h => ?_)
        refine r_iload_n C 48 rfl 2 dX6_isThis_47 rfl ?_
        refine r_iload C 50 rfl 5 dX6_isThis_48 rfl ?_
        refine r_iadd C 51 rfl dX6_isThis_50 ?_
        replace h := jdr_some h
        obtain ⟨b10, hr, h⟩ := h
        rw [hr]
        refine r_iald C 52 rfl dX6_isThis_51 h (fun x11 h => ?_)
        obtain ⟨j60, hj60E, h⟩ := jj_some h
        have hj60 : ∀ (x12 : Int32) (t13 : Hp), j60 x12 t13 = some (o, τ) → jW p l e ({ frames := 1, cells := 0, slots := 0, locals := 12 } : Room) s m args below meth c g (jQ below g o τ args s 0 0) 0 0 60 [(0, .ref a0), (1, .int v1), (2, .int v2), (3, .int v3), (5, .int v5)] [.int x12] t13 := by
          subst hj60E
          intro x12 t13 h
          refine r_istore C 62 rfl [(4, .int x12), (0, .ref a0), (1, .int v1), (2, .int v2), (3, .int v3), (5, .int v5)] dX6_isThis_60 (by decide) rfl ?_
          refine r_iinc C (v := v5 + 1) 65 rfl 5 [(5, .int (v5 + 1)), (4, .int x12), (0, .ref a0), (1, .int v1), (2, .int v2), (3, .int v3)] dX6_isThis_62 rfl rfl (by decide) rfl ?_
          refine r_goto C 20 dX6_isThis_65 (by decide) ?_
          refine r_lv [2, 3, 4, 5, 1, 0] rfl ?_
          exact ih a0 v1 v2 v3 x12 (v5 + 1) t13 h
        clear hj60E
        refine r_icmp_ne C 59 55 rfl dX6_isThis_52 (by decide) h (fun h => ?_) (fun h => ?_)
        · refine r_iconst C (v := 0) 60 rfl dX6_isThis_59 (by decide) ?_
          refine r_lv [0, 1, 2, 3, 5] rfl ?_
          exact hj60 0 t0 h
        · refine r_iconst C (v := 1) 56 rfl dX6_isThis_55 (by decide) ?_
          refine r_goto C 60 dX6_isThis_56 (by decide) ?_
          refine r_lv [0, 1, 2, 3, 5] rfl ?_
          exact hj60 1 t0 h
set_option maxHeartbeats 4000000 in
set_option maxRecDepth 100000 in
theorem k_X6_isThis (l : Launch) (hst : l.stackTraces = false) (g : jG)   (a0 : Nat) (v1 : Int32) (v2 : Int32) (v3 : Int32) (σ : Hp) (o : jO) (τ : Hp) (h : J_X6_isThis a0 v1 v2 v3 σ = some (o, τ)) : jMet l g yX6_isThis (Cond.code yX6_isThis cX6_isThis 6 (some FieldType.boolean) :: gT) ({ frames := 1, cells := 0, slots := 0, locals := 12 } : Room) 0 0 [.ref a0, .int v1, .int v2, .int v3] σ o τ := by
  refine j_start l hst (own := RX6) (by decide) rfl (Nat.le_of_ble_eq_true rfl) ?_
  intro p e s m args below meth c C hE hin
  unfold J_X6_isThis at h
  show jW p l e ({ frames := 1, cells := 0, slots := 0, locals := 12 } : Room) s m args below meth c g (jQ below g o τ args s 0 0) 0 0 0 [(0, .ref a0), (1, .int v1), (2, .int v2), (3, .int v3)] [] σ
  refine r_aload_n C (x := some a0) 1 rfl 0 dX6_isThis_0 rfl ?_
  refine r_getR C 4 rfl ff_X6_28 dX6_isThis_1 h (fun r1 h => ?_)
  refine r_iload_n C 5 rfl 1 dX6_isThis_4 rfl ?_
  replace h := jdr_some h
  obtain ⟨b2, hr, h⟩ := h
  rw [hr]
  refine r_iald C 6 rfl dX6_isThis_5 h (fun x3 h => ?_)
  refine r_iload_n C 7 rfl 3 dX6_isThis_6 rfl ?_
  obtain ⟨j15, hj15E, h⟩ := jj_some h
  have hj15 : ∀ (x4 : Int32) (t5 : Hp), j15 x4 t5 = some (o, τ) → jW p l e ({ frames := 1, cells := 0, slots := 0, locals := 12 } : Room) s m args below meth c g (jQ below g o τ args s 0 0) 0 0 15 [(0, .ref a0), (1, .int v1), (2, .int v2), (3, .int v3)] [.int x4] t5 := by
    subst hj15E
    intro x4 t5 h
    refine r_istore C 17 rfl [(4, .int x4), (0, .ref a0), (1, .int v1), (2, .int v2), (3, .int v3)] dX6_isThis_15 (by decide) rfl ?_
    refine r_iconst C (v := 0) 18 rfl dX6_isThis_17 (by decide) ?_
    refine r_istore C 20 rfl [(5, .int 0), (4, .int x4), (0, .ref a0), (1, .int v1), (2, .int v2), (3, .int v3)] dX6_isThis_18 (by decide) rfl ?_
    refine r_lv [2, 3, 4, 5, 1, 0] rfl ?_
    refine w_X6_isThis_L20 l hst  C hE  jN a0 v1 v2 v3 x4 0 t5 h
  clear hj15E
  refine r_icmp_ne C 14 10 rfl dX6_isThis_7 (by decide) h (fun h => ?_) (fun h => ?_)
  · refine r_iconst C (v := 0) 15 rfl dX6_isThis_14 (by decide) ?_
    exact hj15 0 σ h
  · refine r_iconst C (v := 1) 11 rfl dX6_isThis_10 (by decide) ?_
    refine r_goto C 15 dX6_isThis_11 (by decide) ?_
    exact hj15 1 σ h

def J_X6_isException_L5b   (rc : Nat → Int32 → Int32 → Int32 → Int32 → Hp → jR) (a0 : Nat) (v1 : Int32) (v2 : Int32) (v3 : Int32) (v4 : Int32) (t0 : Hp) : jR := jgI t0 a0 6 10 (fun x1 => (if x1 ≤ v4 then jrt .boolean v3 t0 else jj (fun (x2 : Int32) (t3 : Hp) => rc a0 v1 v2 x2 (v4 + 1) t3) (fun j34 => jj (fun (t4 : Hp) => j34 1 t4) (fun j29 => (if v3 = 0 then jcv t0 a0 6 (J_X6_isThis a0 v4 v1 v2 t0) (fun w6 t5 => jvI w6 (fun x7 => (if x7 = 0 then j34 0 t5 else j29 t5))) (fun E t => some (.inr E, t)) else j29 t0)))))
def J_X6_isException_L5   : Nat → Nat → Int32 → Int32 → Int32 → Int32 → Hp → jR
  | 0 => fun _ _ _ _ _ _ => none
  | n + 1 => J_X6_isException_L5b   (J_X6_isException_L5   n)
def J_X6_isException  (a0 : Nat) (v1 : Int32) (v2 : Int32) (σ : Hp) : jR := J_X6_isException_L5   jN a0 v1 v2 0 0 σ
set_option maxHeartbeats 4000000 in
set_option maxRecDepth 100000 in
theorem w_X6_isException_L5 (l : Launch) (hst : l.stackTraces = false) {p : Program} {e : Env} {s : State} {m : MethodId} {args : Array Value} {below : List Frame} {meth : Method} {c : Code} {g : jG} {o : jO} {τ : Hp}  (C : jC p l s m args meth c g RX6 cX6_isException 5 (some FieldType.boolean)) (hE : ∀ x ∈ c.exceptionTable.toList, False)  : ∀ (n : Nat) (a0 : Nat) (v1 : Int32) (v2 : Int32) (v3 : Int32) (v4 : Int32) (t0 : Hp), J_X6_isException_L5   n a0 v1 v2 v3 v4 t0 = some (o, τ) → jW p l e ({ frames := 2, cells := 0, slots := 0, locals := 37 } : Room) s m args below meth c g (jQ below g o τ args s 0 0) 0 0 5 [(0, .ref a0), (1, .int v1), (2, .int v2), (3, .int v3), (4, .int v4)] [] t0 := by
  intro n
  induction n with
  | zero => intro a0 v1 v2 v3 v4 t0 h; cases h
  | succ n ih =>
    intro a0 v1 v2 v3 v4 t0 h
    have h : J_X6_isException_L5b   (J_X6_isException_L5   n) a0 v1 v2 v3 v4 t0 = some (o, τ) := h
    unfold J_X6_isException_L5b at h
    refine r_iload C 7 rfl 4 dX6_isException_5 rfl ?_
    refine r_aload_n C (x := some a0) 8 rfl 0 dX6_isException_7 rfl ?_
    refine r_getI C 11 rfl ff_X6_130 dX6_isException_8 h (fun x1 h => ?_)
    refine r_icmp_ge C 41 14 rfl dX6_isException_11 (by decide) h (fun h => ?_) (fun h => ?_)
    · refine r_iload_n C 42 rfl 3 dX6_isException_41 rfl ?_
      exact r_zret C (fun _ => rfl) dX6_isException_42 (Nat.le_refl _) (Nat.le_refl _) h
    · refine r_iload_n C 15 rfl 3 dX6_isException_14 rfl ?_
      obtain ⟨j34, hj34E, h⟩ := jj_some h
      have hj34 : ∀ (x2 : Int32) (t3 : Hp), j34 x2 t3 = some (o, τ) → jW p l e ({ frames := 2, cells := 0, slots := 0, locals := 37 } : Room) s m args below meth c g (jQ below g o τ args s 0 0) 0 0 34 [(0, .ref a0), (1, .int v1), (2, .int v2), (4, .int v4)] [.int x2] t3 := by
        subst hj34E
        intro x2 t3 h
        refine r_istore_n C 35 rfl [(3, .int x2), (0, .ref a0), (1, .int v1), (2, .int v2), (4, .int v4)] dX6_isException_34 (by decide) rfl ?_
        refine r_iinc C (v := v4 + 1) 38 rfl 4 [(4, .int (v4 + 1)), (3, .int x2), (0, .ref a0), (1, .int v1), (2, .int v2)] dX6_isException_35 rfl rfl (by decide) rfl ?_
        refine r_goto C 5 dX6_isException_38 (by decide) ?_
        refine r_lv [2, 3, 4, 1, 0] rfl ?_
        exact ih a0 v1 v2 x2 (v4 + 1) t3 h
      clear hj34E
      obtain ⟨j29, hj29E, h⟩ := jj_some h
      have hj29 : ∀ (t4 : Hp), j29 t4 = some (o, τ) → jW p l e ({ frames := 2, cells := 0, slots := 0, locals := 37 } : Room) s m args below meth c g (jQ below g o τ args s 0 0) 0 0 29 [(0, .ref a0), (1, .int v1), (2, .int v2), (4, .int v4)] [] t4 := by
        subst hj29E
        intro t4 h
        refine r_iconst C (v := 1) 30 rfl dX6_isException_29 (by decide) ?_
        refine r_goto C 34 dX6_isException_30 (by decide) ?_
        exact hj34 1 t4 h
      clear hj29E
      refine r_if_ne C 29 18 rfl dX6_isException_15 (by decide) h (fun h => ?_) (fun h => ?_)
      · refine r_lv [0, 1, 2, 4] rfl ?_
        exact hj29 t0 h
      · refine r_aload_n C (x := some a0) 19 rfl 0 dX6_isException_18 rfl ?_
        refine r_iload C 21 rfl 4 dX6_isException_19 rfl ?_
        refine r_iload_n C 22 rfl 1 dX6_isException_21 rfl ?_
        refine r_iload_n C 23 rfl 2 dX6_isException_22 rfl ?_
        refine r_callV C (ci := 6) mm_X6_133 im_yX6_isThis se_yX6_isThis rfl 26 0 0 rfl rfl rfl dX6_isException_23 rfl rfl (As := [.int v4, .int v1, .int v2]) rfl rfl (Nat.le_of_ble_eq_true rfl) ⟨Nat.le_of_ble_eq_true rfl, Nat.le_of_ble_eq_true rfl⟩ ⟨(Nat.le_of_ble_eq_true rfl), (Nat.le_of_ble_eq_true rfl)⟩ (fun o t h => k_X6_isThis l hst g _ _ _ _ _ o t h) h (fun w6 t5 h => ?_) (fun E t h => r_out C (fun x hx => (hE x hx).elim) (Nat.le_refl _) (Nat.le_refl _) h)
        replace h := jvI_some h
        obtain ⟨x7, rfl, h⟩ := h
        refine r_if_eq C 33 29 rfl dX6_isException_26 (by decide) h (fun h => ?_) (fun h => ?_)
        · refine r_iconst C (v := 0) 34 rfl dX6_isException_33 (by decide) ?_
          refine r_lv [0, 1, 2, 4] rfl ?_
          exact hj34 0 t5 h
        · refine r_lv [0, 1, 2, 4] rfl ?_
          exact hj29 t5 h
set_option maxHeartbeats 4000000 in
set_option maxRecDepth 100000 in
theorem k_X6_isException (l : Launch) (hst : l.stackTraces = false) (g : jG)   (a0 : Nat) (v1 : Int32) (v2 : Int32) (σ : Hp) (o : jO) (τ : Hp) (h : J_X6_isException a0 v1 v2 σ = some (o, τ)) : jMet l g yX6_isException (Cond.code yX6_isException cX6_isException 5 (some FieldType.boolean) :: gT) ({ frames := 2, cells := 0, slots := 0, locals := 37 } : Room) 0 0 [.ref a0, .int v1, .int v2] σ o τ := by
  refine j_start l hst (own := RX6) (by decide) rfl (Nat.le_of_ble_eq_true rfl) ?_
  intro p e s m args below meth c C hE hin
  unfold J_X6_isException at h
  show jW p l e ({ frames := 2, cells := 0, slots := 0, locals := 37 } : Room) s m args below meth c g (jQ below g o τ args s 0 0) 0 0 0 [(0, .ref a0), (1, .int v1), (2, .int v2)] [] σ
  refine r_iconst C (v := 0) 1 rfl dX6_isException_0 (by decide) ?_
  refine r_istore_n C 2 rfl [(3, .int 0), (0, .ref a0), (1, .int v1), (2, .int v2)] dX6_isException_1 (by decide) rfl ?_
  refine r_iconst C (v := 0) 3 rfl dX6_isException_2 (by decide) ?_
  refine r_istore C 5 rfl [(4, .int 0), (3, .int 0), (0, .ref a0), (1, .int v1), (2, .int v2)] dX6_isException_3 (by decide) rfl ?_
  refine r_lv [2, 3, 4, 1, 0] rfl ?_
  refine w_X6_isException_L5 l hst  C hE  jN a0 v1 v2 0 0 σ h

def J_X6_stands_L23b   (rc : Nat → Int32 → Int32 → Int32 → Int32 → Int32 → Hp → jR) (a0 : Nat) (v1 : Int32) (v2 : Int32) (v4 : Int32) (v5 : Int32) (v6 : Int32) (t0 : Hp) : jR := (if v4 ≤ v6 then jrt .boolean v5 t0 else (if v5 = 0 then jrt .boolean v5 t0 else jcv t0 a0 6 (J_X6_letterOf a0 v1 v6 t0) (fun w7 t6 => jvI w7 (fun x8 => jgR t6 a0 6 11 (fun r9 => jdr r9 (fun b10 => jaI t6 b10 (v2 + v6) (fun x11 => jj (fun (x12 : Int32) (t13 : Hp) => rc a0 v1 v2 v4 x12 (v6 + 1) t13) (fun j59 => (if x8 = x11 then j59 1 t6 else j59 0 t6))))))) (fun E t => some (.inr E, t))))
def J_X6_stands_L23   : Nat → Nat → Int32 → Int32 → Int32 → Int32 → Int32 → Hp → jR
  | 0 => fun _ _ _ _ _ _ _ => none
  | n + 1 => J_X6_stands_L23b   (J_X6_stands_L23   n)
def J_X6_stands  (a0 : Nat) (v1 : Int32) (v2 : Int32) (v3 : Int32) (σ : Hp) : jR := jcv σ a0 6 (J_X6_lengthOf a0 v1 σ) (fun w2 t1 => jvI w2 (fun x3 => jj (fun (x4 : Int32) (t5 : Hp) => J_X6_stands_L23   jN a0 v1 v2 x3 x4 0 t5) (fun j18 => (if v3 < x3 then j18 0 t1 else j18 1 t1)))) (fun E t => some (.inr E, t))
set_option maxHeartbeats 4000000 in
set_option maxRecDepth 100000 in
theorem w_X6_stands_L23 (l : Launch) (hst : l.stackTraces = false) {p : Program} {e : Env} {s : State} {m : MethodId} {args : Array Value} {below : List Frame} {meth : Method} {c : Code} {g : jG} {o : jO} {τ : Hp}  (C : jC p l s m args meth c g RX6 cX6_stands 7 (some FieldType.boolean)) (hE : ∀ x ∈ c.exceptionTable.toList, False)  : ∀ (n : Nat) (a0 : Nat) (v1 : Int32) (v2 : Int32) (v4 : Int32) (v5 : Int32) (v6 : Int32) (t0 : Hp), J_X6_stands_L23   n a0 v1 v2 v4 v5 v6 t0 = some (o, τ) → jW p l e ({ frames := 4, cells := 0, slots := 0, locals := 77 } : Room) s m args below meth c g (jQ below g o τ args s 0 0) 0 0 23 [(0, .ref a0), (1, .int v1), (2, .int v2), (4, .int v4), (5, .int v5), (6, .int v6)] [] t0 := by
  intro n
  induction n with
  | zero => intro a0 v1 v2 v4 v5 v6 t0 h; cases h
  | succ n ih =>
    intro a0 v1 v2 v4 v5 v6 t0 h
    have h : J_X6_stands_L23b   (J_X6_stands_L23   n) a0 v1 v2 v4 v5 v6 t0 = some (o, τ) := h
    unfold J_X6_stands_L23b at h
    refine r_iload C 25 rfl 5 dX6_stands_23 rfl ?_
    refine r_iload C 27 rfl 3 dX6_stands_25 rfl ?_
    refine r_icmp_ge C 67 30 rfl dX6_stands_27 (by decide) h (fun h => ?_) (fun h => ?_)
    · refine r_iload C 69 rfl 4 dX6_stands_67 rfl ?_
      exact r_zret C (fun _ => rfl) dX6_stands_69 (Nat.le_refl _) (Nat.le_refl _) h
    · refine r_iload C 32 rfl 4 dX6_stands_30 rfl ?_
      refine r_if_eq C 67 35 rfl dX6_stands_32 (by decide) h (fun h => ?_) (fun h => ?_)
      · refine r_iload C 69 rfl 4 dX6_stands_67 rfl ?_
        exact r_zret C (fun _ => rfl) dX6_stands_69 (Nat.le_refl _) (Nat.le_refl _) h
      · refine r_aload_n C (x := some a0) 36 rfl 0 dX6_stands_35 rfl ?_
        refine r_iload_n C 37 rfl 1 dX6_stands_36 rfl ?_
        refine r_iload C 39 rfl 5 dX6_stands_37 rfl ?_
        refine r_callV C (ci := 6) mm_X6_96 im_yX6_letterOf se_yX6_letterOf rfl 42 0 0 rfl rfl rfl dX6_stands_39 rfl rfl (As := [.int v1, .int v6]) rfl rfl (Nat.le_of_ble_eq_true rfl) ⟨Nat.le_of_ble_eq_true rfl, Nat.le_of_ble_eq_true rfl⟩ ⟨(Nat.le_of_ble_eq_true rfl), (Nat.le_of_ble_eq_true rfl)⟩ (fun o t h => k_X6_letterOf l hst g _ _ _ _ o t h) h (fun w7 t6 h => ?_) (fun E t h => r_out C (fun x hx => (hE x hx).elim) (Nat.le_refl _) (Nat.le_refl _) h)
        replace h := jvI_some h
        obtain ⟨x8, rfl, h⟩ := h
        refine r_aload_n C (x := some a0) 43 rfl 0 dX6_stands_42 rfl ?_
        refine r_getR C 46 rfl ff_X6_31 dX6_stands_43 h (fun r9 h => ?_)
        refine r_iload_n C 47 rfl 2 dX6_stands_46 rfl ?_
        refine r_iload C 49 rfl 5 dX6_stands_47 rfl ?_
        refine r_iadd C 50 rfl dX6_stands_49 ?_
        replace h := jdr_some h
        obtain ⟨b10, hr, h⟩ := h
        rw [hr]
        refine r_iald C 51 rfl dX6_stands_50 h (fun x11 h => ?_)
        obtain ⟨j59, hj59E, h⟩ := jj_some h
        have hj59 : ∀ (x12 : Int32) (t13 : Hp), j59 x12 t13 = some (o, τ) → jW p l e ({ frames := 4, cells := 0, slots := 0, locals := 77 } : Room) s m args below meth c g (jQ below g o τ args s 0 0) 0 0 59 [(0, .ref a0), (1, .int v1), (2, .int v2), (4, .int v4), (6, .int v6)] [.int x12] t13 := by
          subst hj59E
          intro x12 t13 h
          refine r_istore C 61 rfl [(5, .int x12), (0, .ref a0), (1, .int v1), (2, .int v2), (4, .int v4), (6, .int v6)] dX6_stands_59 (by decide) rfl ?_
          refine r_iinc C (v := v6 + 1) 64 rfl 5 [(6, .int (v6 + 1)), (5, .int x12), (0, .ref a0), (1, .int v1), (2, .int v2), (4, .int v4)] dX6_stands_61 rfl rfl (by decide) rfl ?_
          refine r_goto C 23 dX6_stands_64 (by decide) ?_
          refine r_lv [2, 3, 4, 5, 1, 0] rfl ?_
          exact ih a0 v1 v2 v4 x12 (v6 + 1) t13 h
        clear hj59E
        refine r_icmp_ne C 58 54 rfl dX6_stands_51 (by decide) h (fun h => ?_) (fun h => ?_)
        · refine r_iconst C (v := 0) 59 rfl dX6_stands_58 (by decide) ?_
          refine r_lv [0, 1, 2, 3, 5] rfl ?_
          exact hj59 0 t6 h
        · refine r_iconst C (v := 1) 55 rfl dX6_stands_54 (by decide) ?_
          refine r_goto C 59 dX6_stands_55 (by decide) ?_
          refine r_lv [0, 1, 2, 3, 5] rfl ?_
          exact hj59 1 t6 h
set_option maxHeartbeats 4000000 in
set_option maxRecDepth 100000 in
theorem k_X6_stands (l : Launch) (hst : l.stackTraces = false) (g : jG)   (a0 : Nat) (v1 : Int32) (v2 : Int32) (v3 : Int32) (σ : Hp) (o : jO) (τ : Hp) (h : J_X6_stands a0 v1 v2 v3 σ = some (o, τ)) : jMet l g yX6_stands (Cond.code yX6_stands cX6_stands 7 (some FieldType.boolean) :: gT) ({ frames := 4, cells := 0, slots := 0, locals := 77 } : Room) 0 0 [.ref a0, .int v1, .int v2, .int v3] σ o τ := by
  refine j_start l hst (own := RX6) (by decide) rfl (Nat.le_of_ble_eq_true rfl) ?_
  intro p e s m args below meth c C hE hin
  unfold J_X6_stands at h
  show jW p l e ({ frames := 4, cells := 0, slots := 0, locals := 77 } : Room) s m args below meth c g (jQ below g o τ args s 0 0) 0 0 0 [(0, .ref a0), (1, .int v1), (2, .int v2), (3, .int v3)] [] σ
  refine r_aload_n C (x := some a0) 1 rfl 0 dX6_stands_0 rfl ?_
  refine r_iload_n C 2 rfl 1 dX6_stands_1 rfl ?_
  refine r_callV C (ci := 6) mm_X6_127 im_yX6_lengthOf se_yX6_lengthOf rfl 5 0 0 rfl rfl rfl dX6_stands_2 rfl rfl (As := [.int v1]) rfl rfl (Nat.le_of_ble_eq_true rfl) ⟨Nat.le_of_ble_eq_true rfl, Nat.le_of_ble_eq_true rfl⟩ ⟨(Nat.le_of_ble_eq_true rfl), (Nat.le_of_ble_eq_true rfl)⟩ (fun o t h => k_X6_lengthOf l hst g _ _ _ o t h) h (fun w2 t1 h => ?_) (fun E t h => r_out C (fun x hx => (hE x hx).elim) (Nat.le_refl _) (Nat.le_refl _) h)
  replace h := jvI_some h
  obtain ⟨x3, rfl, h⟩ := h
  refine r_istore C 7 rfl [(4, .int x3), (0, .ref a0), (1, .int v1), (2, .int v2), (3, .int v3)] dX6_stands_5 (by decide) rfl ?_
  refine r_iload C 9 rfl 0 dX6_stands_7 rfl ?_
  refine r_iload_n C 10 rfl 4 dX6_stands_9 rfl ?_
  obtain ⟨j18, hj18E, h⟩ := jj_some h
  have hj18 : ∀ (x4 : Int32) (t5 : Hp), j18 x4 t5 = some (o, τ) → jW p l e ({ frames := 4, cells := 0, slots := 0, locals := 77 } : Room) s m args below meth c g (jQ below g o τ args s 0 0) 0 0 18 [(0, .ref a0), (1, .int v1), (2, .int v2), (4, .int x3)] [.int x4] t5 := by
    subst hj18E
    intro x4 t5 h
    refine r_istore C 20 rfl [(5, .int x4), (0, .ref a0), (1, .int v1), (2, .int v2), (4, .int x3)] dX6_stands_18 (by decide) rfl ?_
    refine r_iconst C (v := 0) 21 rfl dX6_stands_20 (by decide) ?_
    refine r_istore C 23 rfl [(6, .int 0), (5, .int x4), (0, .ref a0), (1, .int v1), (2, .int v2), (4, .int x3)] dX6_stands_21 (by decide) rfl ?_
    refine r_lv [2, 3, 4, 5, 1, 0] rfl ?_
    refine w_X6_stands_L23 l hst  C hE  jN a0 v1 v2 x3 x4 0 t5 h
  clear hj18E
  refine r_icmp_gt C 17 13 rfl dX6_stands_10 (by decide) h (fun h => ?_) (fun h => ?_)
  · refine r_iconst C (v := 0) 18 rfl dX6_stands_17 (by decide) ?_
    refine r_lv [1, 2, 3, 0] rfl ?_
    exact hj18 0 t1 h
  · refine r_iconst C (v := 1) 14 rfl dX6_stands_13 (by decide) ?_
    refine r_goto C 18 dX6_stands_14 (by decide) ?_
    refine r_lv [1, 2, 3, 0] rfl ?_
    exact hj18 1 t1 h

def J_X6_longest_L6b   (rc : Nat → Int32 → Int32 → Int32 → Int32 → Int32 → Int32 → Hp → jR) (a0 : Nat) (v1 : Int32) (v2 : Int32) (v3 : Int32) (v4 : Int32) (v5 : Int32) (v6 : Int32) (t0 : Hp) : jR := jgI t0 a0 6 7 (fun x1 => (if x1 ≤ v6 then some (.inl (some (.int v5)), t0) else jgR t0 a0 6 4 (fun r2 => jdr r2 (fun b3 => jaI t0 b3 v6 (fun x4 => jj (fun (x5 : Int32) (t6 : Hp) => jj (fun (x7 : Int32) (t8 : Hp) => rc a0 v1 v2 v3 v4 x7 (v6 + 1) t8) (fun j88 => jj (fun (t9 : Hp) => j88 v5 t9) (fun j86 => (if x5 = 0 then j86 t6 else jj (fun (t10 : Hp) => j88 v6 t10) (fun j81 => (if v5 = ((-1)) then j81 t6 else jcv t6 a0 6 (J_X6_lengthOf a0 v6 t6) (fun w12 t11 => jvI w12 (fun x13 => jcv t11 a0 6 (J_X6_lengthOf a0 v5 t11) (fun w15 t14 => jvI w15 (fun x16 => (if x13 ≤ x16 then j86 t14 else j81 t14))) (fun E t => some (.inr E, t)))) (fun E t => some (.inr E, t)))))))) (fun j53 => jj (fun (t17 : Hp) => j53 0 t17) (fun j52 => (if v4 < x4 then j52 t0 else jcv t0 a0 6 (J_X6_lengthOf a0 v6 t0) (fun w19 t18 => jvI w19 (fun x20 => (if v3 < x20 then j52 t18 else jcv t18 a0 6 (J_X6_stands a0 v6 v1 v2 t18) (fun w22 t21 => jvI w22 (fun x23 => (if x23 = 0 then j52 t21 else j53 1 t21))) (fun E t => some (.inr E, t))))) (fun E t => some (.inr E, t))))))))))
def J_X6_longest_L6   : Nat → Nat → Int32 → Int32 → Int32 → Int32 → Int32 → Int32 → Hp → jR
  | 0 => fun _ _ _ _ _ _ _ _ => none
  | n + 1 => J_X6_longest_L6b   (J_X6_longest_L6   n)
def J_X6_longest  (a0 : Nat) (v1 : Int32) (v2 : Int32) (v3 : Int32) (v4 : Int32) (σ : Hp) : jR := J_X6_longest_L6   jN a0 v1 v2 v3 v4 ((-1)) 0 σ
set_option maxHeartbeats 4000000 in
set_option maxRecDepth 100000 in
theorem w_X6_longest_L6 (l : Launch) (hst : l.stackTraces = false) {p : Program} {e : Env} {s : State} {m : MethodId} {args : Array Value} {below : List Frame} {meth : Method} {c : Code} {g : jG} {o : jO} {τ : Hp}  (C : jC p l s m args meth c g RX6 cX6_longest 8 (some FieldType.int)) (hE : ∀ x ∈ c.exceptionTable.toList, False)  : ∀ (n : Nat) (a0 : Nat) (v1 : Int32) (v2 : Int32) (v3 : Int32) (v4 : Int32) (v5 : Int32) (v6 : Int32) (t0 : Hp), J_X6_longest_L6   n a0 v1 v2 v3 v4 v5 v6 t0 = some (o, τ) → jW p l e ({ frames := 5, cells := 0, slots := 0, locals := 103 } : Room) s m args below meth c g (jQ below g o τ args s 0 0) 0 0 6 [(0, .ref a0), (1, .int v1), (2, .int v2), (3, .int v3), (4, .int v4), (5, .int v5), (6, .int v6)] [] t0 := by
  intro n
  induction n with
  | zero => intro a0 v1 v2 v3 v4 v5 v6 t0 h; cases h
  | succ n ih =>
    intro a0 v1 v2 v3 v4 v5 v6 t0 h
    have h : J_X6_longest_L6b   (J_X6_longest_L6   n) a0 v1 v2 v3 v4 v5 v6 t0 = some (o, τ) := h
    unfold J_X6_longest_L6b at h
    refine r_iload C 8 rfl 6 dX6_longest_6 rfl ?_
    refine r_aload_n C (x := some a0) 9 rfl 0 dX6_longest_8 rfl ?_
    refine r_getI C 12 rfl ff_X6_100 dX6_longest_9 h (fun x1 h => ?_)
    refine r_icmp_ge C 96 15 rfl dX6_longest_12 (by decide) h (fun h => ?_) (fun h => ?_)
    · refine r_iload C 98 rfl 5 dX6_longest_96 rfl ?_
      exact r_iret C dX6_longest_98 (Nat.le_refl _) (Nat.le_refl _) h
    · refine r_aload_n C (x := some a0) 16 rfl 0 dX6_longest_15 rfl ?_
      refine r_getR C 19 rfl ff_X6_16 dX6_longest_16 h (fun r2 h => ?_)
      refine r_iload C 21 rfl 6 dX6_longest_19 rfl ?_
      replace h := jdr_some h
      obtain ⟨b3, hr, h⟩ := h
      rw [hr]
      refine r_iald C 22 rfl dX6_longest_21 h (fun x4 h => ?_)
      refine r_iload C 24 rfl 4 dX6_longest_22 rfl ?_
      obtain ⟨j53, hj53E, h⟩ := jj_some h
      have hj53 : ∀ (x5 : Int32) (t6 : Hp), j53 x5 t6 = some (o, τ) → jW p l e ({ frames := 5, cells := 0, slots := 0, locals := 103 } : Room) s m args below meth c g (jQ below g o τ args s 0 0) 0 0 53 [(0, .ref a0), (1, .int v1), (2, .int v2), (3, .int v3), (4, .int v4), (5, .int v5), (6, .int v6)] [.int x5] t6 := by
        subst hj53E
        intro x5 t6 h
        refine r_istore C 55 rfl [(7, .int x5), (0, .ref a0), (1, .int v1), (2, .int v2), (3, .int v3), (4, .int v4), (5, .int v5), (6, .int v6)] dX6_longest_53 (by decide) rfl ?_
        refine r_iload C 57 rfl 0 dX6_longest_55 rfl ?_
        obtain ⟨j88, hj88E, h⟩ := jj_some h
        have hj88 : ∀ (x7 : Int32) (t8 : Hp), j88 x7 t8 = some (o, τ) → jW p l e ({ frames := 5, cells := 0, slots := 0, locals := 103 } : Room) s m args below meth c g (jQ below g o τ args s 0 0) 0 0 88 [(0, .ref a0), (1, .int v1), (2, .int v2), (3, .int v3), (4, .int v4), (6, .int v6)] [.int x7] t8 := by
          subst hj88E
          intro x7 t8 h
          refine r_istore C 90 rfl [(5, .int x7), (0, .ref a0), (1, .int v1), (2, .int v2), (3, .int v3), (4, .int v4), (6, .int v6)] dX6_longest_88 (by decide) rfl ?_
          refine r_iinc C (v := v6 + 1) 93 rfl 6 [(6, .int (v6 + 1)), (5, .int x7), (0, .ref a0), (1, .int v1), (2, .int v2), (3, .int v3), (4, .int v4)] dX6_longest_90 rfl rfl (by decide) rfl ?_
          refine r_goto C 6 dX6_longest_93 (by decide) ?_
          refine r_lv [2, 3, 4, 5, 6, 1, 0] rfl ?_
          exact ih a0 v1 v2 v3 v4 x7 (v6 + 1) t8 h
        clear hj88E
        obtain ⟨j86, hj86E, h⟩ := jj_some h
        have hj86 : ∀ (t9 : Hp), j86 t9 = some (o, τ) → jW p l e ({ frames := 5, cells := 0, slots := 0, locals := 103 } : Room) s m args below meth c g (jQ below g o τ args s 0 0) 0 0 86 [(0, .ref a0), (1, .int v1), (2, .int v2), (3, .int v3), (4, .int v4), (5, .int v5), (6, .int v6)] [] t9 := by
          subst hj86E
          intro t9 h
          refine r_iload C 88 rfl 5 dX6_longest_86 rfl ?_
          refine r_lv [0, 1, 2, 3, 4, 6] rfl ?_
          exact hj88 v5 t9 h
        clear hj86E
        refine r_if_eq C 86 60 rfl dX6_longest_57 (by decide) h (fun h => ?_) (fun h => ?_)
        · refine r_lv [1, 2, 3, 4, 5, 6, 7] rfl ?_
          exact hj86 t6 h
        · refine r_iload C 62 rfl 6 dX6_longest_60 rfl ?_
          refine r_iconst C (v := (-1)) 63 rfl dX6_longest_62 (by decide) ?_
          obtain ⟨j81, hj81E, h⟩ := jj_some h
          have hj81 : ∀ (t10 : Hp), j81 t10 = some (o, τ) → jW p l e ({ frames := 5, cells := 0, slots := 0, locals := 103 } : Room) s m args below meth c g (jQ below g o τ args s 0 0) 0 0 81 [(0, .ref a0), (1, .int v1), (2, .int v2), (3, .int v3), (4, .int v4), (6, .int v6)] [] t10 := by
            subst hj81E
            intro t10 h
            refine r_iload C 83 rfl 5 dX6_longest_81 rfl ?_
            refine r_goto C 88 dX6_longest_83 (by decide) ?_
            exact hj88 v6 t10 h
          clear hj81E
          refine r_icmp_eq C 81 66 rfl dX6_longest_63 (by decide) h (fun h => ?_) (fun h => ?_)
          · refine r_lv [1, 2, 3, 4, 5, 7] rfl ?_
            exact hj81 t6 h
          · refine r_aload_n C (x := some a0) 67 rfl 1 dX6_longest_66 rfl ?_
            refine r_iload C 69 rfl 7 dX6_longest_67 rfl ?_
            refine r_callV C (ci := 6) mm_X6_127 im_yX6_lengthOf se_yX6_lengthOf rfl 72 0 0 rfl rfl rfl dX6_longest_69 rfl rfl (As := [.int v6]) rfl rfl (Nat.le_of_ble_eq_true rfl) ⟨Nat.le_of_ble_eq_true rfl, Nat.le_of_ble_eq_true rfl⟩ ⟨(Nat.le_of_ble_eq_true rfl), (Nat.le_of_ble_eq_true rfl)⟩ (fun o t h => k_X6_lengthOf l hst g _ _ _ o t h) h (fun w12 t11 h => ?_) (fun E t h => r_out C (fun x hx => (hE x hx).elim) (Nat.le_refl _) (Nat.le_refl _) h)
            replace h := jvI_some h
            obtain ⟨x13, rfl, h⟩ := h
            refine r_aload_n C (x := some a0) 73 rfl 1 dX6_longest_72 rfl ?_
            refine r_iload C 75 rfl 6 dX6_longest_73 rfl ?_
            refine r_callV C (ci := 6) mm_X6_127 im_yX6_lengthOf se_yX6_lengthOf rfl 78 0 0 rfl rfl rfl dX6_longest_75 rfl rfl (As := [.int v5]) rfl rfl (Nat.le_of_ble_eq_true rfl) ⟨Nat.le_of_ble_eq_true rfl, Nat.le_of_ble_eq_true rfl⟩ ⟨(Nat.le_of_ble_eq_true rfl), (Nat.le_of_ble_eq_true rfl)⟩ (fun o t h => k_X6_lengthOf l hst g _ _ _ o t h) h (fun w15 t14 h => ?_) (fun E t h => r_out C (fun x hx => (hE x hx).elim) (Nat.le_refl _) (Nat.le_refl _) h)
            replace h := jvI_some h
            obtain ⟨x16, rfl, h⟩ := h
            refine r_icmp_le C 86 81 rfl dX6_longest_78 (by decide) h (fun h => ?_) (fun h => ?_)
            · refine r_lv [1, 2, 3, 4, 5, 6, 7] rfl ?_
              exact hj86 t14 h
            · refine r_lv [1, 2, 3, 4, 5, 7] rfl ?_
              exact hj81 t14 h
      clear hj53E
      obtain ⟨j52, hj52E, h⟩ := jj_some h
      have hj52 : ∀ (t17 : Hp), j52 t17 = some (o, τ) → jW p l e ({ frames := 5, cells := 0, slots := 0, locals := 103 } : Room) s m args below meth c g (jQ below g o τ args s 0 0) 0 0 52 [(0, .ref a0), (1, .int v1), (2, .int v2), (3, .int v3), (4, .int v4), (5, .int v5), (6, .int v6)] [] t17 := by
        subst hj52E
        intro t17 h
        refine r_iconst C (v := 0) 53 rfl dX6_longest_52 (by decide) ?_
        exact hj53 0 t17 h
      clear hj52E
      refine r_icmp_gt C 52 27 rfl dX6_longest_24 (by decide) h (fun h => ?_) (fun h => ?_)
      · exact hj52 t0 h
      · refine r_aload_n C (x := some a0) 28 rfl 0 dX6_longest_27 rfl ?_
        refine r_iload C 30 rfl 6 dX6_longest_28 rfl ?_
        refine r_callV C (ci := 6) mm_X6_127 im_yX6_lengthOf se_yX6_lengthOf rfl 33 0 0 rfl rfl rfl dX6_longest_30 rfl rfl (As := [.int v6]) rfl rfl (Nat.le_of_ble_eq_true rfl) ⟨Nat.le_of_ble_eq_true rfl, Nat.le_of_ble_eq_true rfl⟩ ⟨(Nat.le_of_ble_eq_true rfl), (Nat.le_of_ble_eq_true rfl)⟩ (fun o t h => k_X6_lengthOf l hst g _ _ _ o t h) h (fun w19 t18 h => ?_) (fun E t h => r_out C (fun x hx => (hE x hx).elim) (Nat.le_refl _) (Nat.le_refl _) h)
        replace h := jvI_some h
        obtain ⟨x20, rfl, h⟩ := h
        refine r_iload_n C 34 rfl 3 dX6_longest_33 rfl ?_
        refine r_icmp_gt C 52 37 rfl dX6_longest_34 (by decide) h (fun h => ?_) (fun h => ?_)
        · exact hj52 t18 h
        · refine r_aload_n C (x := some a0) 38 rfl 0 dX6_longest_37 rfl ?_
          refine r_iload C 40 rfl 6 dX6_longest_38 rfl ?_
          refine r_iload_n C 41 rfl 1 dX6_longest_40 rfl ?_
          refine r_iload_n C 42 rfl 2 dX6_longest_41 rfl ?_
          refine r_callV C (ci := 6) mm_X6_143 im_yX6_stands se_yX6_stands rfl 45 0 0 rfl rfl rfl dX6_longest_42 rfl rfl (As := [.int v6, .int v1, .int v2]) rfl rfl (Nat.le_of_ble_eq_true rfl) ⟨Nat.le_of_ble_eq_true rfl, Nat.le_of_ble_eq_true rfl⟩ ⟨(Nat.le_of_ble_eq_true rfl), (Nat.le_of_ble_eq_true rfl)⟩ (fun o t h => k_X6_stands l hst g _ _ _ _ _ o t h) h (fun w22 t21 h => ?_) (fun E t h => r_out C (fun x hx => (hE x hx).elim) (Nat.le_refl _) (Nat.le_refl _) h)
          replace h := jvI_some h
          obtain ⟨x23, rfl, h⟩ := h
          refine r_if_eq C 52 48 rfl dX6_longest_45 (by decide) h (fun h => ?_) (fun h => ?_)
          · exact hj52 t21 h
          · refine r_iconst C (v := 1) 49 rfl dX6_longest_48 (by decide) ?_
            refine r_goto C 53 dX6_longest_49 (by decide) ?_
            exact hj53 1 t21 h
set_option maxHeartbeats 4000000 in
set_option maxRecDepth 100000 in
theorem k_X6_longest (l : Launch) (hst : l.stackTraces = false) (g : jG)   (a0 : Nat) (v1 : Int32) (v2 : Int32) (v3 : Int32) (v4 : Int32) (σ : Hp) (o : jO) (τ : Hp) (h : J_X6_longest a0 v1 v2 v3 v4 σ = some (o, τ)) : jMet l g yX6_longest (Cond.code yX6_longest cX6_longest 8 (some FieldType.int) :: gT) ({ frames := 5, cells := 0, slots := 0, locals := 103 } : Room) 0 0 [.ref a0, .int v1, .int v2, .int v3, .int v4] σ o τ := by
  refine j_start l hst (own := RX6) (by decide) rfl (Nat.le_of_ble_eq_true rfl) ?_
  intro p e s m args below meth c C hE hin
  unfold J_X6_longest at h
  show jW p l e ({ frames := 5, cells := 0, slots := 0, locals := 103 } : Room) s m args below meth c g (jQ below g o τ args s 0 0) 0 0 0 [(0, .ref a0), (1, .int v1), (2, .int v2), (3, .int v3), (4, .int v4)] [] σ
  refine r_iconst C (v := (-1)) 1 rfl dX6_longest_0 (by decide) ?_
  refine r_istore C 3 rfl [(5, .int ((-1))), (0, .ref a0), (1, .int v1), (2, .int v2), (3, .int v3), (4, .int v4)] dX6_longest_1 (by decide) rfl ?_
  refine r_iconst C (v := 0) 4 rfl dX6_longest_3 (by decide) ?_
  refine r_istore C 6 rfl [(6, .int 0), (5, .int ((-1))), (0, .ref a0), (1, .int v1), (2, .int v2), (3, .int v3), (4, .int v4)] dX6_longest_4 (by decide) rfl ?_
  refine r_lv [2, 3, 4, 5, 6, 1, 0] rfl ?_
  refine w_X6_longest_L6 l hst  C hE  jN a0 v1 v2 v3 v4 ((-1)) 0 σ h

def J_X6_translates_L40b   (rc : Nat → Int32 → Int32 → Int32 → Int32 → Int32 → Hp → jR) (a0 : Nat) (v1 : Int32) (v3 : Int32) (v4 : Int32) (v5 : Int32) (v6 : Int32) (t0 : Hp) : jR := (if v4 ≤ v6 then some (.inl none, t0) else jgR t0 a0 6 13 (fun r13 => jdr r13 (fun b14 => jaI t0 b14 v1 (fun x15 => jcv t0 a0 6 (J_X6_longest a0 (v3 + v6) (v4 - v6) v5 x15 t0) (fun w17 t16 => jvI w17 (fun x18 => jgR t16 a0 6 22 (fun r19 => jgI t16 a0 6 23 (fun x20 => jj (fun (x21 : Int32) (t22 : Hp) => jdr r19 (fun b23 => jsI t22 b23 x20 x21 (fun t24 => jgI t24 a0 6 23 (fun x25 => jpI t24 a0 6 23 (x25 + 1) (fun t26 => jj (fun (t27 : Hp) => jj (fun (x28 : Int32) (t29 : Hp) => rc a0 v1 v3 v4 v5 (v6 + x28) t29) (fun j167 => (if x18 = ((-1)) then j167 1 t27 else jcv t27 a0 6 (J_X6_lengthOf a0 x18 t27) (fun w31 t30 => jvI w31 (fun x32 => j167 x32 t30)) (fun E t => some (.inr E, t))))) (fun j149 => (if x18 = ((-1)) then j149 t26 else jgR t26 a0 6 6 (fun r33 => jdr r33 (fun b34 => jaI t26 b34 x18 (fun x35 => (if x35 ≤ 0 then j149 t26 else jgR t26 a0 6 22 (fun r36 => jgI t26 a0 6 23 (fun x37 => jgR t26 a0 6 6 (fun r38 => jdr r38 (fun b39 => jaI t26 b39 x18 (fun x40 => jdr r36 (fun b41 => jsI t26 b41 x37 x40 (fun t42 => jgI t42 a0 6 23 (fun x43 => jpI t42 a0 6 23 (x43 + 1) (fun t44 => j149 t44)))))))))))))))))))) (fun j96 => (if x18 = ((-1)) then j96 63 t16 else jgR t16 a0 6 5 (fun r45 => jdr r45 (fun b46 => jaI t16 b46 x18 (fun x47 => j96 x47 t16))))))))) (fun E t => some (.inr E, t))))))
def J_X6_translates_L40   : Nat → Nat → Int32 → Int32 → Int32 → Int32 → Int32 → Hp → jR
  | 0 => fun _ _ _ _ _ _ _ => none
  | n + 1 => J_X6_translates_L40b   (J_X6_translates_L40   n)
def J_X6_translates  (a0 : Nat) (v1 : Int32) (v2 : Int32) (σ : Hp) : jR := jcv σ a0 6 (J_X6_beginOf a0 v1 v2 σ) (fun w2 t1 => jvI w2 (fun x3 => jcv t1 a0 6 (J_X6_letterCount a0 v1 x3 t1) (fun w5 t4 => jvI w5 (fun x6 => jcv t4 a0 6 (J_X6_isException a0 x3 x6 t4) (fun w8 t7 => jvI w8 (fun x9 => jj (fun (x10 : Int32) (t11 : Hp) => jpI t11 a0 6 23 0 (fun t12 => J_X6_translates_L40   jN a0 v1 x3 x6 x10 0 t12)) (fun j30 => (if x9 = 0 then j30 4 t7 else j30 1 t7)))) (fun E t => some (.inr E, t)))) (fun E t => some (.inr E, t)))) (fun E t => some (.inr E, t))
set_option maxHeartbeats 4000000 in
set_option maxRecDepth 100000 in
theorem w_X6_translates_L40 (l : Launch) (hst : l.stackTraces = false) {p : Program} {e : Env} {s : State} {m : MethodId} {args : Array Value} {below : List Frame} {meth : Method} {c : Code} {g : jG} {o : jO} {τ : Hp}  (C : jC p l s m args meth c g RX6 cX6_translates 8 none) (hE : ∀ x ∈ c.exceptionTable.toList, False)  : ∀ (n : Nat) (a0 : Nat) (v1 : Int32) (v3 : Int32) (v4 : Int32) (v5 : Int32) (v6 : Int32) (t0 : Hp), J_X6_translates_L40   n a0 v1 v3 v4 v5 v6 t0 = some (o, τ) → jW p l e ({ frames := 6, cells := 0, slots := 0, locals := 130 } : Room) s m args below meth c g (jQ below g o τ args s 0 0) 0 0 40 [(0, .ref a0), (1, .int v1), (3, .int v3), (4, .int v4), (5, .int v5), (6, .int v6)] [] t0 := by
  intro n
  induction n with
  | zero => intro a0 v1 v3 v4 v5 v6 t0 h; cases h
  | succ n ih =>
    intro a0 v1 v3 v4 v5 v6 t0 h
    have h : J_X6_translates_L40b   (J_X6_translates_L40   n) a0 v1 v3 v4 v5 v6 t0 = some (o, τ) := h
    unfold J_X6_translates_L40b at h
    refine r_iload C 42 rfl 5 dX6_translates_40 rfl ?_
    refine r_iload C 44 rfl 3 dX6_translates_42 rfl ?_
    refine r_icmp_ge C 173 47 rfl dX6_translates_44 (by decide) h (fun h => ?_) (fun h => ?_)
    · exact r_vret C dX6_translates_173 (Nat.le_refl _) (Nat.le_refl _) h
    · refine r_aload_n C (x := some a0) 48 rfl 0 dX6_translates_47 rfl ?_
      refine r_iload_n C 49 rfl 2 dX6_translates_48 rfl ?_
      refine r_iload C 51 rfl 5 dX6_translates_49 rfl ?_
      refine r_iadd C 52 rfl dX6_translates_51 ?_
      refine r_iload C 54 rfl 3 dX6_translates_52 rfl ?_
      refine r_iload C 56 rfl 5 dX6_translates_54 rfl ?_
      refine r_isub C 57 rfl dX6_translates_56 ?_
      refine r_iload C 59 rfl 4 dX6_translates_57 rfl ?_
      refine r_aload_n C (x := some a0) 60 rfl 0 dX6_translates_59 rfl ?_
      refine r_getR C 63 rfl ff_X6_37 dX6_translates_60 h (fun r13 h => ?_)
      refine r_iload_n C 64 rfl 1 dX6_translates_63 rfl ?_
      replace h := jdr_some h
      obtain ⟨b14, hr, h⟩ := h
      rw [hr]
      refine r_iald C 65 rfl dX6_translates_64 h (fun x15 h => ?_)
      refine r_callV C (ci := 6) mm_X6_158 im_yX6_longest se_yX6_longest rfl 68 0 0 rfl rfl rfl dX6_translates_65 rfl rfl (As := [.int (v3 + v6), .int (v4 - v6), .int v5, .int x15]) rfl rfl (Nat.le_of_ble_eq_true rfl) ⟨Nat.le_of_ble_eq_true rfl, Nat.le_of_ble_eq_true rfl⟩ ⟨(Nat.le_of_ble_eq_true rfl), (Nat.le_of_ble_eq_true rfl)⟩ (fun o t h => k_X6_longest l hst g _ _ _ _ _ _ o t h) h (fun w17 t16 h => ?_) (fun E t h => r_out C (fun x hx => (hE x hx).elim) (Nat.le_refl _) (Nat.le_refl _) h)
      replace h := jvI_some h
      obtain ⟨x18, rfl, h⟩ := h
      refine r_istore C 70 rfl [(7, .int x18), (0, .ref a0), (1, .int v1), (3, .int v3), (4, .int v4), (5, .int v5), (6, .int v6)] dX6_translates_68 (by decide) rfl ?_
      refine r_aload_n C (x := some a0) 71 rfl 1 dX6_translates_70 rfl ?_
      refine r_getR C 74 rfl ff_X6_62 dX6_translates_71 h (fun r19 h => ?_)
      refine r_aload_n C (x := some a0) 75 rfl 1 dX6_translates_74 rfl ?_
      refine r_getI C 78 rfl ff_X6_155 dX6_translates_75 h (fun x20 h => ?_)
      refine r_iload C 80 rfl 0 dX6_translates_78 rfl ?_
      refine r_iconst C (v := (-1)) 81 rfl dX6_translates_80 (by decide) ?_
      obtain ⟨j96, hj96E, h⟩ := jj_some h
      have hj96 : ∀ (x21 : Int32) (t22 : Hp), j96 x21 t22 = some (o, τ) → jW p l e ({ frames := 6, cells := 0, slots := 0, locals := 130 } : Room) s m args below meth c g (jQ below g o τ args s 0 0) 0 0 96 [(0, .ref a0), (1, .int v1), (3, .int v3), (4, .int v4), (5, .int v5), (6, .int v6), (7, .int x18)] [.int x21, .int x20, va_rf r19] t22 := by
        subst hj96E
        intro x21 t22 h
        replace h := jdr_some h
        obtain ⟨b23, hr, h⟩ := h
        rw [hr]
        refine r_iast C 97 rfl dX6_translates_96 h (fun t24 h => ?_)
        refine r_aload_n C (x := some a0) 98 rfl 0 dX6_translates_97 rfl ?_
        refine r_dup C 99 rfl dX6_translates_98 rfl ?_
        refine r_getI C 102 rfl ff_X6_155 dX6_translates_99 h (fun x25 h => ?_)
        refine r_iconst C (v := 1) 103 rfl dX6_translates_102 (by decide) ?_
        refine r_iadd C 104 rfl dX6_translates_103 ?_
        refine r_putI C 107 rfl fp_X6_155 dX6_translates_104 h (fun t26 h => ?_)
        refine r_iload C 109 rfl 6 dX6_translates_107 rfl ?_
        refine r_iconst C (v := (-1)) 110 rfl dX6_translates_109 (by decide) ?_
        obtain ⟨j149, hj149E, h⟩ := jj_some h
        have hj149 : ∀ (t27 : Hp), j149 t27 = some (o, τ) → jW p l e ({ frames := 6, cells := 0, slots := 0, locals := 130 } : Room) s m args below meth c g (jQ below g o τ args s 0 0) 0 0 149 [(0, .ref a0), (1, .int v1), (3, .int v3), (4, .int v4), (5, .int v5), (6, .int v6), (7, .int x18)] [] t27 := by
          subst hj149E
          intro t27 h
          refine r_iload C 151 rfl 5 dX6_translates_149 rfl ?_
          refine r_iload C 153 rfl 6 dX6_translates_151 rfl ?_
          refine r_iconst C (v := (-1)) 154 rfl dX6_translates_153 (by decide) ?_
          obtain ⟨j167, hj167E, h⟩ := jj_some h
          have hj167 : ∀ (x28 : Int32) (t29 : Hp), j167 x28 t29 = some (o, τ) → jW p l e ({ frames := 6, cells := 0, slots := 0, locals := 130 } : Room) s m args below meth c g (jQ below g o τ args s 0 0) 0 0 167 [(0, .ref a0), (1, .int v1), (3, .int v3), (4, .int v4), (5, .int v5)] [.int x28, .int v6] t29 := by
            subst hj167E
            intro x28 t29 h
            refine r_iadd C 168 rfl dX6_translates_167 ?_
            refine r_istore C 170 rfl [(6, .int (v6 + x28)), (0, .ref a0), (1, .int v1), (3, .int v3), (4, .int v4), (5, .int v5)] dX6_translates_168 (by decide) rfl ?_
            refine r_goto C 40 dX6_translates_170 (by decide) ?_
            refine r_lv [1, 2, 3, 4, 5, 0] rfl ?_
            exact ih a0 v1 v3 v4 v5 (v6 + x28) t29 h
          clear hj167E
          refine r_icmp_ne C 161 157 rfl dX6_translates_154 (by decide) h (fun h => ?_) (fun h => ?_)
          · refine r_aload_n C (x := some a0) 162 rfl 0 dX6_translates_161 rfl ?_
            refine r_iload C 164 rfl 6 dX6_translates_162 rfl ?_
            refine r_callV C (ci := 6) mm_X6_127 im_yX6_lengthOf se_yX6_lengthOf rfl 167 0 0 rfl rfl rfl dX6_translates_164 rfl rfl (As := [.int x18]) rfl rfl (Nat.le_of_ble_eq_true rfl) ⟨Nat.le_of_ble_eq_true rfl, Nat.le_of_ble_eq_true rfl⟩ ⟨(Nat.le_of_ble_eq_true rfl), (Nat.le_of_ble_eq_true rfl)⟩ (fun o t h => k_X6_lengthOf l hst g _ _ _ o t h) h (fun w31 t30 h => ?_) (fun E t h => r_out C (fun x hx => (hE x hx).elim) (Nat.le_refl _) (Nat.le_refl _) h)
            replace h := jvI_some h
            obtain ⟨x32, rfl, h⟩ := h
            refine r_lv [0, 1, 2, 3, 4] rfl ?_
            exact hj167 x32 t30 h
          · refine r_iconst C (v := 1) 158 rfl dX6_translates_157 (by decide) ?_
            refine r_goto C 167 dX6_translates_158 (by decide) ?_
            refine r_lv [0, 1, 2, 3, 4] rfl ?_
            exact hj167 1 t27 h
        clear hj149E
        refine r_icmp_eq C 149 113 rfl dX6_translates_110 (by decide) h (fun h => ?_) (fun h => ?_)
        · exact hj149 t26 h
        · refine r_aload_n C (x := some a0) 114 rfl 0 dX6_translates_113 rfl ?_
          refine r_getR C 117 rfl ff_X6_22 dX6_translates_114 h (fun r33 h => ?_)
          refine r_iload C 119 rfl 6 dX6_translates_117 rfl ?_
          replace h := jdr_some h
          obtain ⟨b34, hr, h⟩ := h
          rw [hr]
          refine r_iald C 120 rfl dX6_translates_119 h (fun x35 h => ?_)
          refine r_if_le C 149 123 rfl dX6_translates_120 (by decide) h (fun h => ?_) (fun h => ?_)
          · exact hj149 t26 h
          · refine r_aload_n C (x := some a0) 124 rfl 0 dX6_translates_123 rfl ?_
            refine r_getR C 127 rfl ff_X6_62 dX6_translates_124 h (fun r36 h => ?_)
            refine r_aload_n C (x := some a0) 128 rfl 0 dX6_translates_127 rfl ?_
            refine r_getI C 131 rfl ff_X6_155 dX6_translates_128 h (fun x37 h => ?_)
            refine r_aload_n C (x := some a0) 132 rfl 0 dX6_translates_131 rfl ?_
            refine r_getR C 135 rfl ff_X6_22 dX6_translates_132 h (fun r38 h => ?_)
            refine r_iload C 137 rfl 6 dX6_translates_135 rfl ?_
            replace h := jdr_some h
            obtain ⟨b39, hr, h⟩ := h
            rw [hr]
            refine r_iald C 138 rfl dX6_translates_137 h (fun x40 h => ?_)
            replace h := jdr_some h
            obtain ⟨b41, hr, h⟩ := h
            rw [hr]
            refine r_iast C 139 rfl dX6_translates_138 h (fun t42 h => ?_)
            refine r_aload_n C (x := some a0) 140 rfl 0 dX6_translates_139 rfl ?_
            refine r_dup C 141 rfl dX6_translates_140 rfl ?_
            refine r_getI C 144 rfl ff_X6_155 dX6_translates_141 h (fun x43 h => ?_)
            refine r_iconst C (v := 1) 145 rfl dX6_translates_144 (by decide) ?_
            refine r_iadd C 146 rfl dX6_translates_145 ?_
            refine r_putI C 149 rfl fp_X6_155 dX6_translates_146 h (fun t44 h => ?_)
            exact hj149 t44 h
      clear hj96E
      refine r_icmp_ne C 89 84 rfl dX6_translates_81 (by decide) h (fun h => ?_) (fun h => ?_)
      · refine r_aload_n C (x := some a0) 90 rfl 1 dX6_translates_89 rfl ?_
        refine r_getR C 93 rfl ff_X6_19 dX6_translates_90 h (fun r45 h => ?_)
        refine r_iload C 95 rfl 0 dX6_translates_93 rfl ?_
        replace h := jdr_some h
        obtain ⟨b46, hr, h⟩ := h
        rw [hr]
        refine r_iald C 96 rfl dX6_translates_95 h (fun x47 h => ?_)
        refine r_lv [1, 2, 3, 4, 5, 6, 0] rfl ?_
        exact hj96 x47 t16 h
      · refine r_bipush C (v := 63) 86 rfl dX6_translates_84 (by decide) ?_
        refine r_goto C 96 dX6_translates_86 (by decide) ?_
        refine r_lv [1, 2, 3, 4, 5, 6, 0] rfl ?_
        exact hj96 63 t16 h
set_option maxHeartbeats 4000000 in
set_option maxRecDepth 100000 in
theorem k_X6_translates (l : Launch) (hst : l.stackTraces = false) (g : jG)   (a0 : Nat) (v1 : Int32) (v2 : Int32) (σ : Hp) (o : jO) (τ : Hp) (h : J_X6_translates a0 v1 v2 σ = some (o, τ)) : jMet l g yX6_translates (Cond.code yX6_translates cX6_translates 8 none :: gT) ({ frames := 6, cells := 0, slots := 0, locals := 130 } : Room) 0 0 [.ref a0, .int v1, .int v2] σ o τ := by
  refine j_start l hst (own := RX6) (by decide) rfl (Nat.le_of_ble_eq_true rfl) ?_
  intro p e s m args below meth c C hE hin
  unfold J_X6_translates at h
  show jW p l e ({ frames := 6, cells := 0, slots := 0, locals := 130 } : Room) s m args below meth c g (jQ below g o τ args s 0 0) 0 0 0 [(0, .ref a0), (1, .int v1), (2, .int v2)] [] σ
  refine r_aload_n C (x := some a0) 1 rfl 0 dX6_translates_0 rfl ?_
  refine r_iload_n C 2 rfl 1 dX6_translates_1 rfl ?_
  refine r_iload_n C 3 rfl 2 dX6_translates_2 rfl ?_
  refine r_callV C (ci := 6) mm_X6_146 im_yX6_beginOf se_yX6_beginOf rfl 6 0 0 rfl rfl rfl dX6_translates_3 rfl rfl (As := [.int v1, .int v2]) rfl rfl (Nat.le_of_ble_eq_true rfl) ⟨Nat.le_of_ble_eq_true rfl, Nat.le_of_ble_eq_true rfl⟩ ⟨(Nat.le_of_ble_eq_true rfl), (Nat.le_of_ble_eq_true rfl)⟩ (fun o t h => k_X6_beginOf l hst g _ _ _ _ o t h) h (fun w2 t1 h => ?_) (fun E t h => r_out C (fun x hx => (hE x hx).elim) (Nat.le_refl _) (Nat.le_refl _) h)
  replace h := jvI_some h
  obtain ⟨x3, rfl, h⟩ := h
  refine r_istore_n C 7 rfl [(3, .int x3), (0, .ref a0), (1, .int v1), (2, .int v2)] dX6_translates_6 (by decide) rfl ?_
  refine r_aload_n C (x := some a0) 8 rfl 1 dX6_translates_7 rfl ?_
  refine r_iload_n C 9 rfl 2 dX6_translates_8 rfl ?_
  refine r_iload_n C 10 rfl 0 dX6_translates_9 rfl ?_
  refine r_callV C (ci := 6) mm_X6_149 im_yX6_letterCount se_yX6_letterCount rfl 13 0 0 rfl rfl rfl dX6_translates_10 rfl rfl (As := [.int v1, .int x3]) rfl rfl (Nat.le_of_ble_eq_true rfl) ⟨Nat.le_of_ble_eq_true rfl, Nat.le_of_ble_eq_true rfl⟩ ⟨(Nat.le_of_ble_eq_true rfl), (Nat.le_of_ble_eq_true rfl)⟩ (fun o t h => k_X6_letterCount l hst g _ _ _ _ o t h) h (fun w5 t4 h => ?_) (fun E t h => r_out C (fun x hx => (hE x hx).elim) (Nat.le_refl _) (Nat.le_refl _) h)
  replace h := jvI_some h
  obtain ⟨x6, rfl, h⟩ := h
  refine r_istore C 15 rfl [(4, .int x6), (3, .int x3), (0, .ref a0), (1, .int v1), (2, .int v2)] dX6_translates_13 (by decide) rfl ?_
  refine r_aload_n C (x := some a0) 16 rfl 2 dX6_translates_15 rfl ?_
  refine r_iload_n C 17 rfl 1 dX6_translates_16 rfl ?_
  refine r_iload C 19 rfl 0 dX6_translates_17 rfl ?_
  refine r_callV C (ci := 6) mm_X6_152 im_yX6_isException se_yX6_isException rfl 22 0 0 rfl rfl rfl dX6_translates_19 rfl rfl (As := [.int x3, .int x6]) rfl rfl (Nat.le_of_ble_eq_true rfl) ⟨Nat.le_of_ble_eq_true rfl, Nat.le_of_ble_eq_true rfl⟩ ⟨(Nat.le_of_ble_eq_true rfl), (Nat.le_of_ble_eq_true rfl)⟩ (fun o t h => k_X6_isException l hst g _ _ _ _ o t h) h (fun w8 t7 h => ?_) (fun E t h => r_out C (fun x hx => (hE x hx).elim) (Nat.le_refl _) (Nat.le_refl _) h)
  replace h := jvI_some h
  obtain ⟨x9, rfl, h⟩ := h
  obtain ⟨j30, hj30E, h⟩ := jj_some h
  have hj30 : ∀ (x10 : Int32) (t11 : Hp), j30 x10 t11 = some (o, τ) → jW p l e ({ frames := 6, cells := 0, slots := 0, locals := 130 } : Room) s m args below meth c g (jQ below g o τ args s 0 0) 0 0 30 [(0, .ref a0), (1, .int v1), (3, .int x3), (4, .int x6)] [.int x10] t11 := by
    subst hj30E
    intro x10 t11 h
    refine r_istore C 32 rfl [(5, .int x10), (0, .ref a0), (1, .int v1), (3, .int x3), (4, .int x6)] dX6_translates_30 (by decide) rfl ?_
    refine r_aload_n C (x := some a0) 33 rfl 1 dX6_translates_32 rfl ?_
    refine r_iconst C (v := 0) 34 rfl dX6_translates_33 (by decide) ?_
    refine r_putI C 37 rfl fp_X6_155 dX6_translates_34 h (fun t12 h => ?_)
    refine r_iconst C (v := 0) 38 rfl dX6_translates_37 (by decide) ?_
    refine r_istore C 40 rfl [(6, .int 0), (5, .int x10), (0, .ref a0), (1, .int v1), (3, .int x3), (4, .int x6)] dX6_translates_38 (by decide) rfl ?_
    refine r_lv [2, 3, 4, 5, 1, 0] rfl ?_
    refine w_X6_translates_L40 l hst  C hE  jN a0 v1 x3 x6 x10 0 t12 h
  clear hj30E
  refine r_if_eq C 29 25 rfl dX6_translates_22 (by decide) h (fun h => ?_) (fun h => ?_)
  · refine r_iconst C (v := 4) 30 rfl dX6_translates_29 (by decide) ?_
    refine r_lv [2, 3, 1, 0] rfl ?_
    exact hj30 4 t7 h
  · refine r_iconst C (v := 1) 26 rfl dX6_translates_25 (by decide) ?_
    refine r_goto C 30 dX6_translates_26 (by decide) ?_
    refine r_lv [2, 3, 1, 0] rfl ?_
    exact hj30 1 t7 h

def J_X6_keepsCells_L50b  (k81 : Nat → Int32 → Int32 → Int32 → Int32 → Hp → jR) (rc : Nat → Int32 → Int32 → Int32 → Int32 → Int32 → Hp → jR) (a0 : Nat) (v1 : Int32) (v2 : Int32) (v3 : Int32) (v4 : Int32) (v5 : Int32) (t0 : Hp) : jR := jgI t0 a0 6 23 (fun x11 => (if x11 ≤ v5 then k81 a0 v1 v2 v3 v4 t0 else jgR t0 a0 6 24 (fun r12 => jgR t0 a0 6 22 (fun r13 => jdr r13 (fun b14 => jaI t0 b14 v5 (fun x15 => jdr r12 (fun b16 => jsI t0 b16 v1 x15 (fun t17 => rc a0 (v1 + 1) v2 v3 v4 (v5 + 1) t17))))))))
def J_X6_keepsCells_L50  (k81 : Nat → Int32 → Int32 → Int32 → Int32 → Hp → jR) : Nat → Nat → Int32 → Int32 → Int32 → Int32 → Int32 → Hp → jR
  | 0 => fun _ _ _ _ _ _ _ => none
  | n + 1 => J_X6_keepsCells_L50b  k81 (J_X6_keepsCells_L50  k81 n)
def J_X6_keepsCells_L21b  (k87 : Nat → Int32 → Int32 → Hp → jR) (rc : Nat → Int32 → Int32 → Int32 → Int32 → Hp → jR) (a0 : Nat) (v1 : Int32) (v2 : Int32) (v3 : Int32) (v4 : Int32) (t0 : Hp) : jR := (if v3 ≤ v4 then k87 a0 v1 v2 t0 else jcv t0 a0 6 (J_X6_translates a0 v2 v4 t0) (fun w6 t5 => jvV w6 (jgR t5 a0 6 24 (fun r7 => jgI t5 a0 6 23 (fun x8 => jdr r7 (fun b9 => jsI t5 b9 v1 x8 (fun t10 => J_X6_keepsCells_L50  (fun (x18 : Nat) (x19 : Int32) (x20 : Int32) (x21 : Int32) (x22 : Int32) (t23 : Hp) => rc x18 x19 x20 x21 (x22 + 1) t23) jN a0 (v1 + 1) v2 v3 v4 0 t10)))))) (fun E t => some (.inr E, t)))
def J_X6_keepsCells_L21  (k87 : Nat → Int32 → Int32 → Hp → jR) : Nat → Nat → Int32 → Int32 → Int32 → Int32 → Hp → jR
  | 0 => fun _ _ _ _ _ _ => none
  | n + 1 => J_X6_keepsCells_L21b  k87 (J_X6_keepsCells_L21  k87 n)
def J_X6_keepsCells_L4b   (rc : Nat → Int32 → Int32 → Hp → jR) (a0 : Nat) (v1 : Int32) (v2 : Int32) (t0 : Hp) : jR := jgI t0 a0 6 14 (fun x1 => (if x1 ≤ v2 then some (.inl none, t0) else jcv t0 a0 6 (J_X6_wordsOf a0 v2 t0) (fun w3 t2 => jvI w3 (fun x4 => J_X6_keepsCells_L21  (fun (x24 : Nat) (x25 : Int32) (x26 : Int32) (t27 : Hp) => rc x24 x25 (x26 + 1) t27) jN a0 v1 v2 x4 0 t2)) (fun E t => some (.inr E, t))))
def J_X6_keepsCells_L4   : Nat → Nat → Int32 → Int32 → Hp → jR
  | 0 => fun _ _ _ _ => none
  | n + 1 => J_X6_keepsCells_L4b   (J_X6_keepsCells_L4   n)
def J_X6_keepsCells  (a0 : Nat) (σ : Hp) : jR := J_X6_keepsCells_L4   jN a0 0 0 σ
set_option maxHeartbeats 4000000 in
set_option maxRecDepth 100000 in
theorem w_X6_keepsCells_L50 (l : Launch) (hst : l.stackTraces = false) {p : Program} {e : Env} {s : State} {m : MethodId} {args : Array Value} {below : List Frame} {meth : Method} {c : Code} {g : jG} {o : jO} {τ : Hp}  (C : jC p l s m args meth c g RX6 cX6_keepsCells 6 none) (hE : ∀ x ∈ c.exceptionTable.toList, False) (k81 : Nat → Int32 → Int32 → Int32 → Int32 → Hp → jR) (hk81 : ∀ (a0x : Nat) (v1x : Int32) (v2x : Int32) (v3x : Int32) (v4x : Int32) (tx : Hp), k81 a0x v1x v2x v3x v4x tx = some (o, τ) → jW p l e ({ frames := 7, cells := 0, slots := 0, locals := 157 } : Room) s m args below meth c g (jQ below g o τ args s 0 0) 0 0 81 [(0, .ref a0x), (1, .int v1x), (2, .int v2x), (3, .int v3x), (4, .int v4x)] [] tx) : ∀ (n : Nat) (a0 : Nat) (v1 : Int32) (v2 : Int32) (v3 : Int32) (v4 : Int32) (v5 : Int32) (t0 : Hp), J_X6_keepsCells_L50  k81 n a0 v1 v2 v3 v4 v5 t0 = some (o, τ) → jW p l e ({ frames := 7, cells := 0, slots := 0, locals := 157 } : Room) s m args below meth c g (jQ below g o τ args s 0 0) 0 0 50 [(0, .ref a0), (1, .int v1), (2, .int v2), (3, .int v3), (4, .int v4), (5, .int v5)] [] t0 := by
  intro n
  induction n with
  | zero => intro a0 v1 v2 v3 v4 v5 t0 h; cases h
  | succ n ih =>
    intro a0 v1 v2 v3 v4 v5 t0 h
    have h : J_X6_keepsCells_L50b  k81 (J_X6_keepsCells_L50  k81 n) a0 v1 v2 v3 v4 v5 t0 = some (o, τ) := h
    unfold J_X6_keepsCells_L50b at h
    refine r_iload C 52 rfl 5 dX6_keepsCells_50 rfl ?_
    refine r_aload_n C (x := some a0) 53 rfl 0 dX6_keepsCells_52 rfl ?_
    refine r_getI C 56 rfl ff_X6_155 dX6_keepsCells_53 h (fun x11 h => ?_)
    refine r_icmp_ge C 81 59 rfl dX6_keepsCells_56 (by decide) h (fun h => ?_) (fun h => ?_)
    · refine r_lv [0, 1, 2, 3, 4] rfl ?_
      exact hk81 a0 v1 v2 v3 v4 t0 h
    · refine r_aload_n C (x := some a0) 60 rfl 0 dX6_keepsCells_59 rfl ?_
      refine r_getR C 63 rfl ff_X6_65 dX6_keepsCells_60 h (fun r12 h => ?_)
      refine r_iload_n C 64 rfl 1 dX6_keepsCells_63 rfl ?_
      refine r_aload_n C (x := some a0) 65 rfl 0 dX6_keepsCells_64 rfl ?_
      refine r_getR C 68 rfl ff_X6_62 dX6_keepsCells_65 h (fun r13 h => ?_)
      refine r_iload C 70 rfl 5 dX6_keepsCells_68 rfl ?_
      replace h := jdr_some h
      obtain ⟨b14, hr, h⟩ := h
      rw [hr]
      refine r_iald C 71 rfl dX6_keepsCells_70 h (fun x15 h => ?_)
      replace h := jdr_some h
      obtain ⟨b16, hr, h⟩ := h
      rw [hr]
      refine r_iast C 72 rfl dX6_keepsCells_71 h (fun t17 h => ?_)
      refine r_iinc C (v := v1 + 1) 75 rfl 1 [(1, .int (v1 + 1)), (0, .ref a0), (2, .int v2), (3, .int v3), (4, .int v4), (5, .int v5)] dX6_keepsCells_72 rfl rfl (by decide) rfl ?_
      refine r_iinc C (v := v5 + 1) 78 rfl 5 [(5, .int (v5 + 1)), (1, .int (v1 + 1)), (0, .ref a0), (2, .int v2), (3, .int v3), (4, .int v4)] dX6_keepsCells_75 rfl rfl (by decide) rfl ?_
      refine r_goto C 50 dX6_keepsCells_78 (by decide) ?_
      refine r_lv [2, 1, 3, 4, 5, 0] rfl ?_
      exact ih a0 (v1 + 1) v2 v3 v4 (v5 + 1) t17 h
set_option maxHeartbeats 4000000 in
set_option maxRecDepth 100000 in
theorem w_X6_keepsCells_L21 (l : Launch) (hst : l.stackTraces = false) {p : Program} {e : Env} {s : State} {m : MethodId} {args : Array Value} {below : List Frame} {meth : Method} {c : Code} {g : jG} {o : jO} {τ : Hp}  (C : jC p l s m args meth c g RX6 cX6_keepsCells 6 none) (hE : ∀ x ∈ c.exceptionTable.toList, False) (k87 : Nat → Int32 → Int32 → Hp → jR) (hk87 : ∀ (a0x : Nat) (v1x : Int32) (v2x : Int32) (tx : Hp), k87 a0x v1x v2x tx = some (o, τ) → jW p l e ({ frames := 7, cells := 0, slots := 0, locals := 157 } : Room) s m args below meth c g (jQ below g o τ args s 0 0) 0 0 87 [(0, .ref a0x), (1, .int v1x), (2, .int v2x)] [] tx) : ∀ (n : Nat) (a0 : Nat) (v1 : Int32) (v2 : Int32) (v3 : Int32) (v4 : Int32) (t0 : Hp), J_X6_keepsCells_L21  k87 n a0 v1 v2 v3 v4 t0 = some (o, τ) → jW p l e ({ frames := 7, cells := 0, slots := 0, locals := 157 } : Room) s m args below meth c g (jQ below g o τ args s 0 0) 0 0 21 [(0, .ref a0), (1, .int v1), (2, .int v2), (3, .int v3), (4, .int v4)] [] t0 := by
  intro n
  induction n with
  | zero => intro a0 v1 v2 v3 v4 t0 h; cases h
  | succ n ih =>
    intro a0 v1 v2 v3 v4 t0 h
    have h : J_X6_keepsCells_L21b  k87 (J_X6_keepsCells_L21  k87 n) a0 v1 v2 v3 v4 t0 = some (o, τ) := h
    unfold J_X6_keepsCells_L21b at h
    refine r_iload C 23 rfl 4 dX6_keepsCells_21 rfl ?_
    refine r_iload_n C 24 rfl 3 dX6_keepsCells_23 rfl ?_
    refine r_icmp_ge C 87 27 rfl dX6_keepsCells_24 (by decide) h (fun h => ?_) (fun h => ?_)
    · refine r_lv [0, 1, 2] rfl ?_
      exact hk87 a0 v1 v2 t0 h
    · refine r_aload_n C (x := some a0) 28 rfl 0 dX6_keepsCells_27 rfl ?_
      refine r_iload_n C 29 rfl 2 dX6_keepsCells_28 rfl ?_
      refine r_iload C 31 rfl 4 dX6_keepsCells_29 rfl ?_
      refine r_callV C (ci := 6) mm_X6_168 im_yX6_translates se_yX6_translates rfl 34 0 0 rfl rfl rfl dX6_keepsCells_31 rfl rfl (As := [.int v2, .int v4]) rfl rfl (Nat.le_of_ble_eq_true rfl) ⟨Nat.le_of_ble_eq_true rfl, Nat.le_of_ble_eq_true rfl⟩ ⟨(Nat.le_of_ble_eq_true rfl), (Nat.le_of_ble_eq_true rfl)⟩ (fun o t h => k_X6_translates l hst g _ _ _ _ o t h) h (fun w6 t5 h => ?_) (fun E t h => r_out C (fun x hx => (hE x hx).elim) (Nat.le_refl _) (Nat.le_refl _) h)
      replace h := jvV_some h
      obtain ⟨rfl, h⟩ := h
      refine r_aload_n C (x := some a0) 35 rfl 0 dX6_keepsCells_34 rfl ?_
      refine r_getR C 38 rfl ff_X6_65 dX6_keepsCells_35 h (fun r7 h => ?_)
      refine r_iload_n C 39 rfl 1 dX6_keepsCells_38 rfl ?_
      refine r_aload_n C (x := some a0) 40 rfl 0 dX6_keepsCells_39 rfl ?_
      refine r_getI C 43 rfl ff_X6_155 dX6_keepsCells_40 h (fun x8 h => ?_)
      replace h := jdr_some h
      obtain ⟨b9, hr, h⟩ := h
      rw [hr]
      refine r_iast C 44 rfl dX6_keepsCells_43 h (fun t10 h => ?_)
      refine r_iinc C (v := v1 + 1) 47 rfl 1 [(1, .int (v1 + 1)), (0, .ref a0), (2, .int v2), (3, .int v3), (4, .int v4)] dX6_keepsCells_44 rfl rfl (by decide) rfl ?_
      refine r_iconst C (v := 0) 48 rfl dX6_keepsCells_47 (by decide) ?_
      refine r_istore C 50 rfl [(5, .int 0), (1, .int (v1 + 1)), (0, .ref a0), (2, .int v2), (3, .int v3), (4, .int v4)] dX6_keepsCells_48 (by decide) rfl ?_
      refine r_lv [2, 1, 3, 4, 5, 0] rfl ?_
      refine w_X6_keepsCells_L50 l hst  C hE _ (fun x18 x19 x20 x21 x22 t23 h => ?_) jN a0 (v1 + 1) v2 v3 v4 0 t10 h
      refine r_iinc C (v := x22 + 1) 84 rfl 4 [(4, .int (x22 + 1)), (0, .ref x18), (1, .int x19), (2, .int x20), (3, .int x21)] dX6_keepsCells_81 rfl rfl (by decide) rfl ?_
      refine r_goto C 21 dX6_keepsCells_84 (by decide) ?_
      refine r_lv [1, 2, 3, 4, 0] rfl ?_
      exact ih x18 x19 x20 x21 (x22 + 1) t23 h
set_option maxHeartbeats 4000000 in
set_option maxRecDepth 100000 in
theorem w_X6_keepsCells_L4 (l : Launch) (hst : l.stackTraces = false) {p : Program} {e : Env} {s : State} {m : MethodId} {args : Array Value} {below : List Frame} {meth : Method} {c : Code} {g : jG} {o : jO} {τ : Hp}  (C : jC p l s m args meth c g RX6 cX6_keepsCells 6 none) (hE : ∀ x ∈ c.exceptionTable.toList, False)  : ∀ (n : Nat) (a0 : Nat) (v1 : Int32) (v2 : Int32) (t0 : Hp), J_X6_keepsCells_L4   n a0 v1 v2 t0 = some (o, τ) → jW p l e ({ frames := 7, cells := 0, slots := 0, locals := 157 } : Room) s m args below meth c g (jQ below g o τ args s 0 0) 0 0 4 [(0, .ref a0), (1, .int v1), (2, .int v2)] [] t0 := by
  intro n
  induction n with
  | zero => intro a0 v1 v2 t0 h; cases h
  | succ n ih =>
    intro a0 v1 v2 t0 h
    have h : J_X6_keepsCells_L4b   (J_X6_keepsCells_L4   n) a0 v1 v2 t0 = some (o, τ) := h
    unfold J_X6_keepsCells_L4b at h
    refine r_iload_n C 5 rfl 2 dX6_keepsCells_4 rfl ?_
    refine r_aload_n C (x := some a0) 6 rfl 0 dX6_keepsCells_5 rfl ?_
    refine r_getI C 9 rfl ff_X6_162 dX6_keepsCells_6 h (fun x1 h => ?_)
    refine r_icmp_ge C 93 12 rfl dX6_keepsCells_9 (by decide) h (fun h => ?_) (fun h => ?_)
    · exact r_vret C dX6_keepsCells_93 (Nat.le_refl _) (Nat.le_refl _) h
    · refine r_aload_n C (x := some a0) 13 rfl 0 dX6_keepsCells_12 rfl ?_
      refine r_iload_n C 14 rfl 2 dX6_keepsCells_13 rfl ?_
      refine r_callV C (ci := 6) mm_X6_165 im_yX6_wordsOf se_yX6_wordsOf rfl 17 0 0 rfl rfl rfl dX6_keepsCells_14 rfl rfl (As := [.int v2]) rfl rfl (Nat.le_of_ble_eq_true rfl) ⟨Nat.le_of_ble_eq_true rfl, Nat.le_of_ble_eq_true rfl⟩ ⟨(Nat.le_of_ble_eq_true rfl), (Nat.le_of_ble_eq_true rfl)⟩ (fun o t h => k_X6_wordsOf l hst g _ _ _ o t h) h (fun w3 t2 h => ?_) (fun E t h => r_out C (fun x hx => (hE x hx).elim) (Nat.le_refl _) (Nat.le_refl _) h)
      replace h := jvI_some h
      obtain ⟨x4, rfl, h⟩ := h
      refine r_istore_n C 18 rfl [(3, .int x4), (0, .ref a0), (1, .int v1), (2, .int v2)] dX6_keepsCells_17 (by decide) rfl ?_
      refine r_iconst C (v := 0) 19 rfl dX6_keepsCells_18 (by decide) ?_
      refine r_istore C 21 rfl [(4, .int 0), (3, .int x4), (0, .ref a0), (1, .int v1), (2, .int v2)] dX6_keepsCells_19 (by decide) rfl ?_
      refine r_lv [2, 3, 4, 1, 0] rfl ?_
      refine w_X6_keepsCells_L21 l hst  C hE _ (fun x24 x25 x26 t27 h => ?_) jN a0 v1 v2 x4 0 t2 h
      refine r_iinc C (v := x26 + 1) 90 rfl 2 [(2, .int (x26 + 1)), (0, .ref x24), (1, .int x25)] dX6_keepsCells_87 rfl rfl (by decide) rfl ?_
      refine r_goto C 4 dX6_keepsCells_90 (by decide) ?_
      refine r_lv [1, 2, 0] rfl ?_
      exact ih x24 x25 (x26 + 1) t27 h
set_option maxHeartbeats 4000000 in
set_option maxRecDepth 100000 in
theorem k_X6_keepsCells (l : Launch) (hst : l.stackTraces = false) (g : jG)   (a0 : Nat) (σ : Hp) (o : jO) (τ : Hp) (h : J_X6_keepsCells a0 σ = some (o, τ)) : jMet l g yX6_keepsCells (Cond.code yX6_keepsCells cX6_keepsCells 6 none :: gT) ({ frames := 7, cells := 0, slots := 0, locals := 157 } : Room) 0 0 [.ref a0] σ o τ := by
  refine j_start l hst (own := RX6) (by decide) rfl (Nat.le_of_ble_eq_true rfl) ?_
  intro p e s m args below meth c C hE hin
  unfold J_X6_keepsCells at h
  show jW p l e ({ frames := 7, cells := 0, slots := 0, locals := 157 } : Room) s m args below meth c g (jQ below g o τ args s 0 0) 0 0 0 [(0, .ref a0)] [] σ
  refine r_iconst C (v := 0) 1 rfl dX6_keepsCells_0 (by decide) ?_
  refine r_istore_n C 2 rfl [(1, .int 0), (0, .ref a0)] dX6_keepsCells_1 (by decide) rfl ?_
  refine r_iconst C (v := 0) 3 rfl dX6_keepsCells_2 (by decide) ?_
  refine r_istore_n C 4 rfl [(2, .int 0), (1, .int 0), (0, .ref a0)] dX6_keepsCells_3 (by decide) rfl ?_
  refine r_lv [2, 1, 0] rfl ?_
  refine w_X6_keepsCells_L4 l hst  C hE  jN a0 0 0 σ h

def J_X6_textsChanged_L68b  (k114 : Nat → Int32 → Int32 → Int32 → Int32 → Int32 → Int32 → Int32 → Int32 → Hp → jR) (rc : Nat → Int32 → Int32 → Int32 → Int32 → Int32 → Int32 → Int32 → Int32 → Int32 → Hp → jR) (a0 : Nat) (v1 : Int32) (v2 : Int32) (v3 : Int32) (v4 : Int32) (v5 : Int32) (v6 : Int32) (v7 : Int32) (v8 : Int32) (v9 : Int32) (t0 : Hp) : jR := (if v7 ≤ v9 then k114 a0 v1 v2 v3 v4 v5 v6 v7 v8 t0 else (if v8 = 0 then k114 a0 v1 v2 v3 v4 v5 v6 v7 v8 t0 else jgR t0 a0 6 24 (fun r13 => jdr r13 (fun b14 => jaI t0 b14 ((v1 + 1) + v9) (fun x15 => jgR t0 a0 6 22 (fun r16 => jdr r16 (fun b17 => jaI t0 b17 v9 (fun x18 => jj (fun (x19 : Int32) (t20 : Hp) => rc a0 v1 v2 v3 v4 v5 v6 v7 x19 (v9 + 1) t20) (fun j106 => (if x15 = x18 then j106 1 t0 else j106 0 t0))))))))))
def J_X6_textsChanged_L68  (k114 : Nat → Int32 → Int32 → Int32 → Int32 → Int32 → Int32 → Int32 → Int32 → Hp → jR) : Nat → Nat → Int32 → Int32 → Int32 → Int32 → Int32 → Int32 → Int32 → Int32 → Int32 → Hp → jR
  | 0 => fun _ _ _ _ _ _ _ _ _ _ _ => none
  | n + 1 => J_X6_textsChanged_L68b  k114 (J_X6_textsChanged_L68  k114 n)
def J_X6_textsChanged_L27b  (k179 : Nat → Int32 → Int32 → Int32 → Int32 → Hp → jR) (rc : Nat → Int32 → Int32 → Int32 → Int32 → Int32 → Int32 → Hp → jR) (a0 : Nat) (v1 : Int32) (v2 : Int32) (v3 : Int32) (v4 : Int32) (v5 : Int32) (v6 : Int32) (t0 : Hp) : jR := (if v4 ≤ v6 then k179 a0 v1 v2 v3 v5 t0 else jcv t0 a0 6 (J_X6_translates a0 v3 v6 t0) (fun w6 t5 => jvV w6 (jgR t5 a0 6 24 (fun r7 => jdr r7 (fun b8 => jaI t5 b8 v1 (fun x9 => jgI t5 a0 6 23 (fun x10 => jj (fun (x11 : Int32) (t12 : Hp) => J_X6_textsChanged_L68  (fun (x21 : Nat) (x22 : Int32) (x23 : Int32) (x24 : Int32) (x25 : Int32) (x26 : Int32) (x27 : Int32) (x28 : Int32) (x29 : Int32) (t30 : Hp) => jj (fun (x31 : Int32) (t32 : Hp) => jj (fun (t33 : Hp) => rc x21 (x22 + (1 + x28)) x23 x24 x25 x31 (x27 + 1) t33) (fun j173 => (if x29 = 0 then jgR t32 x21 6 19 (fun r34 => jdr r34 (fun b35 => jsI t32 b35 ((40 * x24) + x27) 0 (fun t36 => jgR t36 x21 6 19 (fun r37 => jdr r37 (fun b38 => jsI t36 b38 ((240 + (40 * x24)) + x27) 0 (fun t39 => j173 t39)))))) else j173 t32))) (fun j136 => jj (fun (t40 : Hp) => j136 1 t40) (fun j131 => (if x26 = 0 then (if x29 = 0 then j131 t30 else j136 0 t30) else j131 t30)))) jN a0 v1 v2 v3 v4 v5 v6 x9 x11 0 t12) (fun j63 => (if x9 = x10 then j63 1 t5 else j63 0 t5)))))))) (fun E t => some (.inr E, t)))
def J_X6_textsChanged_L27  (k179 : Nat → Int32 → Int32 → Int32 → Int32 → Hp → jR) : Nat → Nat → Int32 → Int32 → Int32 → Int32 → Int32 → Int32 → Hp → jR
  | 0 => fun _ _ _ _ _ _ _ _ => none
  | n + 1 => J_X6_textsChanged_L27b  k179 (J_X6_textsChanged_L27  k179 n)
def J_X6_textsChanged_L6b   (rc : Nat → Int32 → Int32 → Int32 → Hp → jR) (a0 : Nat) (v1 : Int32) (v2 : Int32) (v3 : Int32) (t0 : Hp) : jR := jgI t0 a0 6 14 (fun x1 => (if x1 ≤ v3 then some (.inl (some (.int v2)), t0) else jcv t0 a0 6 (J_X6_wordsOf a0 v3 t0) (fun w3 t2 => jvI w3 (fun x4 => J_X6_textsChanged_L27  (fun (x41 : Nat) (x42 : Int32) (x43 : Int32) (x44 : Int32) (x45 : Int32) (t46 : Hp) => jj (fun (x47 : Int32) (t48 : Hp) => rc x41 x42 (x43 + x47) (x44 + 1) t48) (fun j190 => (if x45 = 0 then j190 0 t46 else j190 1 t46))) jN a0 v1 v2 v3 x4 0 0 t2)) (fun E t => some (.inr E, t))))
def J_X6_textsChanged_L6   : Nat → Nat → Int32 → Int32 → Int32 → Hp → jR
  | 0 => fun _ _ _ _ _ => none
  | n + 1 => J_X6_textsChanged_L6b   (J_X6_textsChanged_L6   n)
def J_X6_textsChanged  (a0 : Nat) (σ : Hp) : jR := J_X6_textsChanged_L6   jN a0 0 0 0 σ
set_option maxHeartbeats 4000000 in
set_option maxRecDepth 100000 in
theorem w_X6_textsChanged_L68 (l : Launch) (hst : l.stackTraces = false) {p : Program} {e : Env} {s : State} {m : MethodId} {args : Array Value} {below : List Frame} {meth : Method} {c : Code} {g : jG} {o : jO} {τ : Hp}  (C : jC p l s m args meth c g RX6 cX6_textsChanged 10 (some FieldType.int)) (hE : ∀ x ∈ c.exceptionTable.toList, False) (k114 : Nat → Int32 → Int32 → Int32 → Int32 → Int32 → Int32 → Int32 → Int32 → Hp → jR) (hk114 : ∀ (a0x : Nat) (v1x : Int32) (v2x : Int32) (v3x : Int32) (v4x : Int32) (v5x : Int32) (v6x : Int32) (v7x : Int32) (v8x : Int32) (tx : Hp), k114 a0x v1x v2x v3x v4x v5x v6x v7x v8x tx = some (o, τ) → jW p l e ({ frames := 7, cells := 0, slots := 0, locals := 157 } : Room) s m args below meth c g (jQ below g o τ args s 0 0) 0 0 114 [(0, .ref a0x), (1, .int v1x), (2, .int v2x), (3, .int v3x), (4, .int v4x), (5, .int v5x), (6, .int v6x), (7, .int v7x), (8, .int v8x)] [] tx) : ∀ (n : Nat) (a0 : Nat) (v1 : Int32) (v2 : Int32) (v3 : Int32) (v4 : Int32) (v5 : Int32) (v6 : Int32) (v7 : Int32) (v8 : Int32) (v9 : Int32) (t0 : Hp), J_X6_textsChanged_L68  k114 n a0 v1 v2 v3 v4 v5 v6 v7 v8 v9 t0 = some (o, τ) → jW p l e ({ frames := 7, cells := 0, slots := 0, locals := 157 } : Room) s m args below meth c g (jQ below g o τ args s 0 0) 0 0 68 [(0, .ref a0), (1, .int v1), (2, .int v2), (3, .int v3), (4, .int v4), (5, .int v5), (6, .int v6), (7, .int v7), (8, .int v8), (9, .int v9)] [] t0 := by
  intro n
  induction n with
  | zero => intro a0 v1 v2 v3 v4 v5 v6 v7 v8 v9 t0 h; cases h
  | succ n ih =>
    intro a0 v1 v2 v3 v4 v5 v6 v7 v8 v9 t0 h
    have h : J_X6_textsChanged_L68b  k114 (J_X6_textsChanged_L68  k114 n) a0 v1 v2 v3 v4 v5 v6 v7 v8 v9 t0 = some (o, τ) := h
    unfold J_X6_textsChanged_L68b at h
    refine r_iload C 70 rfl 9 dX6_textsChanged_68 rfl ?_
    refine r_iload C 72 rfl 7 dX6_textsChanged_70 rfl ?_
    refine r_icmp_ge C 114 75 rfl dX6_textsChanged_72 (by decide) h (fun h => ?_) (fun h => ?_)
    · refine r_lv [0, 1, 2, 3, 4, 5, 6, 7, 8] rfl ?_
      exact hk114 a0 v1 v2 v3 v4 v5 v6 v7 v8 t0 h
    · refine r_iload C 77 rfl 8 dX6_textsChanged_75 rfl ?_
      refine r_if_eq C 114 80 rfl dX6_textsChanged_77 (by decide) h (fun h => ?_) (fun h => ?_)
      · refine r_lv [0, 1, 2, 3, 4, 5, 6, 7, 8] rfl ?_
        exact hk114 a0 v1 v2 v3 v4 v5 v6 v7 v8 t0 h
      · refine r_aload_n C (x := some a0) 81 rfl 0 dX6_textsChanged_80 rfl ?_
        refine r_getR C 84 rfl ff_X6_65 dX6_textsChanged_81 h (fun r13 h => ?_)
        refine r_iload_n C 85 rfl 1 dX6_textsChanged_84 rfl ?_
        refine r_iconst C (v := 1) 86 rfl dX6_textsChanged_85 (by decide) ?_
        refine r_iadd C 87 rfl dX6_textsChanged_86 ?_
        refine r_iload C 89 rfl 9 dX6_textsChanged_87 rfl ?_
        refine r_iadd C 90 rfl dX6_textsChanged_89 ?_
        replace h := jdr_some h
        obtain ⟨b14, hr, h⟩ := h
        rw [hr]
        refine r_iald C 91 rfl dX6_textsChanged_90 h (fun x15 h => ?_)
        refine r_aload_n C (x := some a0) 92 rfl 0 dX6_textsChanged_91 rfl ?_
        refine r_getR C 95 rfl ff_X6_62 dX6_textsChanged_92 h (fun r16 h => ?_)
        refine r_iload C 97 rfl 9 dX6_textsChanged_95 rfl ?_
        replace h := jdr_some h
        obtain ⟨b17, hr, h⟩ := h
        rw [hr]
        refine r_iald C 98 rfl dX6_textsChanged_97 h (fun x18 h => ?_)
        obtain ⟨j106, hj106E, h⟩ := jj_some h
        have hj106 : ∀ (x19 : Int32) (t20 : Hp), j106 x19 t20 = some (o, τ) → jW p l e ({ frames := 7, cells := 0, slots := 0, locals := 157 } : Room) s m args below meth c g (jQ below g o τ args s 0 0) 0 0 106 [(0, .ref a0), (1, .int v1), (2, .int v2), (3, .int v3), (4, .int v4), (5, .int v5), (6, .int v6), (7, .int v7), (9, .int v9)] [.int x19] t20 := by
          subst hj106E
          intro x19 t20 h
          refine r_istore C 108 rfl [(8, .int x19), (0, .ref a0), (1, .int v1), (2, .int v2), (3, .int v3), (4, .int v4), (5, .int v5), (6, .int v6), (7, .int v7), (9, .int v9)] dX6_textsChanged_106 (by decide) rfl ?_
          refine r_iinc C (v := v9 + 1) 111 rfl 9 [(9, .int (v9 + 1)), (8, .int x19), (0, .ref a0), (1, .int v1), (2, .int v2), (3, .int v3), (4, .int v4), (5, .int v5), (6, .int v6), (7, .int v7)] dX6_textsChanged_108 rfl rfl (by decide) rfl ?_
          refine r_goto C 68 dX6_textsChanged_111 (by decide) ?_
          refine r_lv [2, 3, 4, 5, 6, 7, 8, 9, 1, 0] rfl ?_
          exact ih a0 v1 v2 v3 v4 v5 v6 v7 x19 (v9 + 1) t20 h
        clear hj106E
        refine r_icmp_ne C 105 101 rfl dX6_textsChanged_98 (by decide) h (fun h => ?_) (fun h => ?_)
        · refine r_iconst C (v := 0) 106 rfl dX6_textsChanged_105 (by decide) ?_
          refine r_lv [0, 1, 2, 3, 4, 5, 6, 7, 9] rfl ?_
          exact hj106 0 t0 h
        · refine r_iconst C (v := 1) 102 rfl dX6_textsChanged_101 (by decide) ?_
          refine r_goto C 106 dX6_textsChanged_102 (by decide) ?_
          refine r_lv [0, 1, 2, 3, 4, 5, 6, 7, 9] rfl ?_
          exact hj106 1 t0 h
set_option maxHeartbeats 4000000 in
set_option maxRecDepth 100000 in
theorem w_X6_textsChanged_L27 (l : Launch) (hst : l.stackTraces = false) {p : Program} {e : Env} {s : State} {m : MethodId} {args : Array Value} {below : List Frame} {meth : Method} {c : Code} {g : jG} {o : jO} {τ : Hp}  (C : jC p l s m args meth c g RX6 cX6_textsChanged 10 (some FieldType.int)) (hE : ∀ x ∈ c.exceptionTable.toList, False) (k179 : Nat → Int32 → Int32 → Int32 → Int32 → Hp → jR) (hk179 : ∀ (a0x : Nat) (v1x : Int32) (v2x : Int32) (v3x : Int32) (v5x : Int32) (tx : Hp), k179 a0x v1x v2x v3x v5x tx = some (o, τ) → jW p l e ({ frames := 7, cells := 0, slots := 0, locals := 157 } : Room) s m args below meth c g (jQ below g o τ args s 0 0) 0 0 179 [(0, .ref a0x), (1, .int v1x), (2, .int v2x), (3, .int v3x), (5, .int v5x)] [] tx) : ∀ (n : Nat) (a0 : Nat) (v1 : Int32) (v2 : Int32) (v3 : Int32) (v4 : Int32) (v5 : Int32) (v6 : Int32) (t0 : Hp), J_X6_textsChanged_L27  k179 n a0 v1 v2 v3 v4 v5 v6 t0 = some (o, τ) → jW p l e ({ frames := 7, cells := 0, slots := 0, locals := 157 } : Room) s m args below meth c g (jQ below g o τ args s 0 0) 0 0 27 [(0, .ref a0), (1, .int v1), (2, .int v2), (3, .int v3), (4, .int v4), (5, .int v5), (6, .int v6)] [] t0 := by
  intro n
  induction n with
  | zero => intro a0 v1 v2 v3 v4 v5 v6 t0 h; cases h
  | succ n ih =>
    intro a0 v1 v2 v3 v4 v5 v6 t0 h
    have h : J_X6_textsChanged_L27b  k179 (J_X6_textsChanged_L27  k179 n) a0 v1 v2 v3 v4 v5 v6 t0 = some (o, τ) := h
    unfold J_X6_textsChanged_L27b at h
    refine r_iload C 29 rfl 6 dX6_textsChanged_27 rfl ?_
    refine r_iload C 31 rfl 4 dX6_textsChanged_29 rfl ?_
    refine r_icmp_ge C 179 34 rfl dX6_textsChanged_31 (by decide) h (fun h => ?_) (fun h => ?_)
    · refine r_lv [0, 1, 2, 3, 5] rfl ?_
      exact hk179 a0 v1 v2 v3 v5 t0 h
    · refine r_aload_n C (x := some a0) 35 rfl 0 dX6_textsChanged_34 rfl ?_
      refine r_iload_n C 36 rfl 3 dX6_textsChanged_35 rfl ?_
      refine r_iload C 38 rfl 6 dX6_textsChanged_36 rfl ?_
      refine r_callV C (ci := 6) mm_X6_168 im_yX6_translates se_yX6_translates rfl 41 0 0 rfl rfl rfl dX6_textsChanged_38 rfl rfl (As := [.int v3, .int v6]) rfl rfl (Nat.le_of_ble_eq_true rfl) ⟨Nat.le_of_ble_eq_true rfl, Nat.le_of_ble_eq_true rfl⟩ ⟨(Nat.le_of_ble_eq_true rfl), (Nat.le_of_ble_eq_true rfl)⟩ (fun o t h => k_X6_translates l hst g _ _ _ _ o t h) h (fun w6 t5 h => ?_) (fun E t h => r_out C (fun x hx => (hE x hx).elim) (Nat.le_refl _) (Nat.le_refl _) h)
      replace h := jvV_some h
      obtain ⟨rfl, h⟩ := h
      refine r_aload_n C (x := some a0) 42 rfl 0 dX6_textsChanged_41 rfl ?_
      refine r_getR C 45 rfl ff_X6_65 dX6_textsChanged_42 h (fun r7 h => ?_)
      refine r_iload_n C 46 rfl 1 dX6_textsChanged_45 rfl ?_
      replace h := jdr_some h
      obtain ⟨b8, hr, h⟩ := h
      rw [hr]
      refine r_iald C 47 rfl dX6_textsChanged_46 h (fun x9 h => ?_)
      refine r_istore C 49 rfl [(7, .int x9), (0, .ref a0), (1, .int v1), (2, .int v2), (3, .int v3), (4, .int v4), (5, .int v5), (6, .int v6)] dX6_textsChanged_47 (by decide) rfl ?_
      refine r_iload C 51 rfl 0 dX6_textsChanged_49 rfl ?_
      refine r_aload_n C (x := some a0) 52 rfl 1 dX6_textsChanged_51 rfl ?_
      refine r_getI C 55 rfl ff_X6_155 dX6_textsChanged_52 h (fun x10 h => ?_)
      obtain ⟨j63, hj63E, h⟩ := jj_some h
      have hj63 : ∀ (x11 : Int32) (t12 : Hp), j63 x11 t12 = some (o, τ) → jW p l e ({ frames := 7, cells := 0, slots := 0, locals := 157 } : Room) s m args below meth c g (jQ below g o τ args s 0 0) 0 0 63 [(0, .ref a0), (1, .int v1), (2, .int v2), (3, .int v3), (4, .int v4), (5, .int v5), (6, .int v6), (7, .int x9)] [.int x11] t12 := by
        subst hj63E
        intro x11 t12 h
        refine r_istore C 65 rfl [(8, .int x11), (0, .ref a0), (1, .int v1), (2, .int v2), (3, .int v3), (4, .int v4), (5, .int v5), (6, .int v6), (7, .int x9)] dX6_textsChanged_63 (by decide) rfl ?_
        refine r_iconst C (v := 0) 66 rfl dX6_textsChanged_65 (by decide) ?_
        refine r_istore C 68 rfl [(9, .int 0), (8, .int x11), (0, .ref a0), (1, .int v1), (2, .int v2), (3, .int v3), (4, .int v4), (5, .int v5), (6, .int v6), (7, .int x9)] dX6_textsChanged_66 (by decide) rfl ?_
        refine r_lv [2, 3, 4, 5, 6, 7, 8, 9, 1, 0] rfl ?_
        refine w_X6_textsChanged_L68 l hst  C hE _ (fun x21 x22 x23 x24 x25 x26 x27 x28 x29 t30 h => ?_) jN a0 v1 v2 v3 v4 v5 v6 x9 x11 0 t12 h
        refine r_iload_n C 115 rfl 1 dX6_textsChanged_114 rfl ?_
        refine r_iconst C (v := 1) 116 rfl dX6_textsChanged_115 (by decide) ?_
        refine r_iload C 118 rfl 7 dX6_textsChanged_116 rfl ?_
        refine r_iadd C 119 rfl dX6_textsChanged_118 ?_
        refine r_iadd C 120 rfl dX6_textsChanged_119 ?_
        refine r_istore_n C 121 rfl [(1, .int (x22 + (1 + x28))), (0, .ref x21), (2, .int x23), (3, .int x24), (4, .int x25), (5, .int x26), (6, .int x27), (7, .int x28), (8, .int x29)] dX6_textsChanged_120 (by decide) rfl ?_
        refine r_iload C 123 rfl 5 dX6_textsChanged_121 rfl ?_
        obtain ⟨j136, hj136E, h⟩ := jj_some h
        have hj136 : ∀ (x31 : Int32) (t32 : Hp), j136 x31 t32 = some (o, τ) → jW p l e ({ frames := 7, cells := 0, slots := 0, locals := 157 } : Room) s m args below meth c g (jQ below g o τ args s 0 0) 0 0 136 [(0, .ref x21), (1, .int (x22 + (1 + x28))), (2, .int x23), (3, .int x24), (4, .int x25), (6, .int x27), (8, .int x29)] [.int x31] t32 := by
          subst hj136E
          intro x31 t32 h
          refine r_istore C 138 rfl [(5, .int x31), (0, .ref x21), (1, .int (x22 + (1 + x28))), (2, .int x23), (3, .int x24), (4, .int x25), (6, .int x27), (8, .int x29)] dX6_textsChanged_136 (by decide) rfl ?_
          refine r_iload C 140 rfl 7 dX6_textsChanged_138 rfl ?_
          obtain ⟨j173, hj173E, h⟩ := jj_some h
          have hj173 : ∀ (t33 : Hp), j173 t33 = some (o, τ) → jW p l e ({ frames := 7, cells := 0, slots := 0, locals := 157 } : Room) s m args below meth c g (jQ below g o τ args s 0 0) 0 0 173 [(0, .ref x21), (1, .int (x22 + (1 + x28))), (2, .int x23), (3, .int x24), (4, .int x25), (5, .int x31), (6, .int x27)] [] t33 := by
            subst hj173E
            intro t33 h
            refine r_iinc C (v := x27 + 1) 176 rfl 6 [(6, .int (x27 + 1)), (0, .ref x21), (1, .int (x22 + (1 + x28))), (2, .int x23), (3, .int x24), (4, .int x25), (5, .int x31)] dX6_textsChanged_173 rfl rfl (by decide) rfl ?_
            refine r_goto C 27 dX6_textsChanged_176 (by decide) ?_
            refine r_lv [1, 2, 3, 4, 5, 6, 0] rfl ?_
            exact ih x21 (x22 + (1 + x28)) x23 x24 x25 x31 (x27 + 1) t33 h
          clear hj173E
          refine r_if_ne C 173 143 rfl dX6_textsChanged_140 (by decide) h (fun h => ?_) (fun h => ?_)
          · refine r_lv [1, 2, 3, 4, 5, 0, 6] rfl ?_
            exact hj173 t32 h
          · refine r_aload_n C (x := some x21) 144 rfl 1 dX6_textsChanged_143 rfl ?_
            refine r_getR C 147 rfl ff_X6_53 dX6_textsChanged_144 h (fun r34 h => ?_)
            refine r_bipush C (v := 40) 149 rfl dX6_textsChanged_147 (by decide) ?_
            refine r_iload_n C 150 rfl 4 dX6_textsChanged_149 rfl ?_
            refine r_imul C 151 rfl dX6_textsChanged_150 ?_
            refine r_iload C 153 rfl 6 dX6_textsChanged_151 rfl ?_
            refine r_iadd C 154 rfl dX6_textsChanged_153 ?_
            refine r_iconst C (v := 0) 155 rfl dX6_textsChanged_154 (by decide) ?_
            replace h := jdr_some h
            obtain ⟨b35, hr, h⟩ := h
            rw [hr]
            refine r_iast C 156 rfl dX6_textsChanged_155 h (fun t36 h => ?_)
            refine r_aload_n C (x := some x21) 157 rfl 1 dX6_textsChanged_156 rfl ?_
            refine r_getR C 160 rfl ff_X6_53 dX6_textsChanged_157 h (fun r37 h => ?_)
            refine r_sipush C (v := 240) 163 rfl dX6_textsChanged_160 (by decide) ?_
            refine r_bipush C (v := 40) 165 rfl dX6_textsChanged_163 (by decide) ?_
            refine r_iload_n C 166 rfl 4 dX6_textsChanged_165 rfl ?_
            refine r_imul C 167 rfl dX6_textsChanged_166 ?_
            refine r_iadd C 168 rfl dX6_textsChanged_167 ?_
            refine r_iload C 170 rfl 6 dX6_textsChanged_168 rfl ?_
            refine r_iadd C 171 rfl dX6_textsChanged_170 ?_
            refine r_iconst C (v := 0) 172 rfl dX6_textsChanged_171 (by decide) ?_
            replace h := jdr_some h
            obtain ⟨b38, hr, h⟩ := h
            rw [hr]
            refine r_iast C 173 rfl dX6_textsChanged_172 h (fun t39 h => ?_)
            refine r_lv [1, 2, 3, 4, 5, 0, 6] rfl ?_
            exact hj173 t39 h
        clear hj136E
        obtain ⟨j131, hj131E, h⟩ := jj_some h
        have hj131 : ∀ (t40 : Hp), j131 t40 = some (o, τ) → jW p l e ({ frames := 7, cells := 0, slots := 0, locals := 157 } : Room) s m args below meth c g (jQ below g o τ args s 0 0) 0 0 131 [(0, .ref x21), (1, .int (x22 + (1 + x28))), (2, .int x23), (3, .int x24), (4, .int x25), (6, .int x27), (8, .int x29)] [] t40 := by
          subst hj131E
          intro t40 h
          refine r_iconst C (v := 1) 132 rfl dX6_textsChanged_131 (by decide) ?_
          refine r_goto C 136 dX6_textsChanged_132 (by decide) ?_
          exact hj136 1 t40 h
        clear hj131E
        refine r_if_ne C 131 126 rfl dX6_textsChanged_123 (by decide) h (fun h => ?_) (fun h => ?_)
        · refine r_lv [1, 0, 2, 3, 4, 6, 8] rfl ?_
          exact hj131 t30 h
        · refine r_iload C 128 rfl 8 dX6_textsChanged_126 rfl ?_
          refine r_if_ne C 135 131 rfl dX6_textsChanged_128 (by decide) h (fun h => ?_) (fun h => ?_)
          · refine r_iconst C (v := 0) 136 rfl dX6_textsChanged_135 (by decide) ?_
            refine r_lv [1, 0, 2, 3, 4, 6, 8] rfl ?_
            exact hj136 0 t30 h
          · refine r_lv [1, 0, 2, 3, 4, 6, 8] rfl ?_
            exact hj131 t30 h
      clear hj63E
      refine r_icmp_ne C 62 58 rfl dX6_textsChanged_55 (by decide) h (fun h => ?_) (fun h => ?_)
      · refine r_iconst C (v := 0) 63 rfl dX6_textsChanged_62 (by decide) ?_
        refine r_lv [1, 2, 3, 4, 5, 6, 7, 0] rfl ?_
        exact hj63 0 t5 h
      · refine r_iconst C (v := 1) 59 rfl dX6_textsChanged_58 (by decide) ?_
        refine r_goto C 63 dX6_textsChanged_59 (by decide) ?_
        refine r_lv [1, 2, 3, 4, 5, 6, 7, 0] rfl ?_
        exact hj63 1 t5 h
set_option maxHeartbeats 4000000 in
set_option maxRecDepth 100000 in
theorem w_X6_textsChanged_L6 (l : Launch) (hst : l.stackTraces = false) {p : Program} {e : Env} {s : State} {m : MethodId} {args : Array Value} {below : List Frame} {meth : Method} {c : Code} {g : jG} {o : jO} {τ : Hp}  (C : jC p l s m args meth c g RX6 cX6_textsChanged 10 (some FieldType.int)) (hE : ∀ x ∈ c.exceptionTable.toList, False)  : ∀ (n : Nat) (a0 : Nat) (v1 : Int32) (v2 : Int32) (v3 : Int32) (t0 : Hp), J_X6_textsChanged_L6   n a0 v1 v2 v3 t0 = some (o, τ) → jW p l e ({ frames := 7, cells := 0, slots := 0, locals := 157 } : Room) s m args below meth c g (jQ below g o τ args s 0 0) 0 0 6 [(0, .ref a0), (1, .int v1), (2, .int v2), (3, .int v3)] [] t0 := by
  intro n
  induction n with
  | zero => intro a0 v1 v2 v3 t0 h; cases h
  | succ n ih =>
    intro a0 v1 v2 v3 t0 h
    have h : J_X6_textsChanged_L6b   (J_X6_textsChanged_L6   n) a0 v1 v2 v3 t0 = some (o, τ) := h
    unfold J_X6_textsChanged_L6b at h
    refine r_iload_n C 7 rfl 3 dX6_textsChanged_6 rfl ?_
    refine r_aload_n C (x := some a0) 8 rfl 0 dX6_textsChanged_7 rfl ?_
    refine r_getI C 11 rfl ff_X6_162 dX6_textsChanged_8 h (fun x1 h => ?_)
    refine r_icmp_ge C 198 14 rfl dX6_textsChanged_11 (by decide) h (fun h => ?_) (fun h => ?_)
    · refine r_iload_n C 199 rfl 2 dX6_textsChanged_198 rfl ?_
      exact r_iret C dX6_textsChanged_199 (Nat.le_refl _) (Nat.le_refl _) h
    · refine r_aload_n C (x := some a0) 15 rfl 0 dX6_textsChanged_14 rfl ?_
      refine r_iload_n C 16 rfl 3 dX6_textsChanged_15 rfl ?_
      refine r_callV C (ci := 6) mm_X6_165 im_yX6_wordsOf se_yX6_wordsOf rfl 19 0 0 rfl rfl rfl dX6_textsChanged_16 rfl rfl (As := [.int v3]) rfl rfl (Nat.le_of_ble_eq_true rfl) ⟨Nat.le_of_ble_eq_true rfl, Nat.le_of_ble_eq_true rfl⟩ ⟨(Nat.le_of_ble_eq_true rfl), (Nat.le_of_ble_eq_true rfl)⟩ (fun o t h => k_X6_wordsOf l hst g _ _ _ o t h) h (fun w3 t2 h => ?_) (fun E t h => r_out C (fun x hx => (hE x hx).elim) (Nat.le_refl _) (Nat.le_refl _) h)
      replace h := jvI_some h
      obtain ⟨x4, rfl, h⟩ := h
      refine r_istore C 21 rfl [(4, .int x4), (0, .ref a0), (1, .int v1), (2, .int v2), (3, .int v3)] dX6_textsChanged_19 (by decide) rfl ?_
      refine r_iconst C (v := 0) 22 rfl dX6_textsChanged_21 (by decide) ?_
      refine r_istore C 24 rfl [(5, .int 0), (4, .int x4), (0, .ref a0), (1, .int v1), (2, .int v2), (3, .int v3)] dX6_textsChanged_22 (by decide) rfl ?_
      refine r_iconst C (v := 0) 25 rfl dX6_textsChanged_24 (by decide) ?_
      refine r_istore C 27 rfl [(6, .int 0), (5, .int 0), (4, .int x4), (0, .ref a0), (1, .int v1), (2, .int v2), (3, .int v3)] dX6_textsChanged_25 (by decide) rfl ?_
      refine r_lv [3, 4, 5, 6, 2, 1, 0] rfl ?_
      refine w_X6_textsChanged_L27 l hst  C hE _ (fun x41 x42 x43 x44 x45 t46 h => ?_) jN a0 v1 v2 v3 x4 0 0 t2 h
      refine r_iload_n C 180 rfl 2 dX6_textsChanged_179 rfl ?_
      refine r_iload C 182 rfl 4 dX6_textsChanged_180 rfl ?_
      obtain ⟨j190, hj190E, h⟩ := jj_some h
      have hj190 : ∀ (x47 : Int32) (t48 : Hp), j190 x47 t48 = some (o, τ) → jW p l e ({ frames := 7, cells := 0, slots := 0, locals := 157 } : Room) s m args below meth c g (jQ below g o τ args s 0 0) 0 0 190 [(0, .ref x41), (1, .int x42), (3, .int x44)] [.int x47, .int x43] t48 := by
        subst hj190E
        intro x47 t48 h
        refine r_iadd C 191 rfl dX6_textsChanged_190 ?_
        refine r_istore_n C 192 rfl [(2, .int (x43 + x47)), (0, .ref x41), (1, .int x42), (3, .int x44)] dX6_textsChanged_191 (by decide) rfl ?_
        refine r_iinc C (v := x44 + 1) 195 rfl 3 [(3, .int (x44 + 1)), (2, .int (x43 + x47)), (0, .ref x41), (1, .int x42)] dX6_textsChanged_192 rfl rfl (by decide) rfl ?_
        refine r_goto C 6 dX6_textsChanged_195 (by decide) ?_
        refine r_lv [2, 3, 1, 0] rfl ?_
        exact ih x41 x42 (x43 + x47) (x44 + 1) t48 h
      clear hj190E
      refine r_if_eq C 189 185 rfl dX6_textsChanged_182 (by decide) h (fun h => ?_) (fun h => ?_)
      · refine r_iconst C (v := 0) 190 rfl dX6_textsChanged_189 (by decide) ?_
        refine r_lv [0, 1, 3] rfl ?_
        exact hj190 0 t46 h
      · refine r_iconst C (v := 1) 186 rfl dX6_textsChanged_185 (by decide) ?_
        refine r_goto C 190 dX6_textsChanged_186 (by decide) ?_
        refine r_lv [0, 1, 3] rfl ?_
        exact hj190 1 t46 h
set_option maxHeartbeats 4000000 in
set_option maxRecDepth 100000 in
theorem k_X6_textsChanged (l : Launch) (hst : l.stackTraces = false) (g : jG)   (a0 : Nat) (σ : Hp) (o : jO) (τ : Hp) (h : J_X6_textsChanged a0 σ = some (o, τ)) : jMet l g yX6_textsChanged (Cond.code yX6_textsChanged cX6_textsChanged 10 (some FieldType.int) :: gT) ({ frames := 7, cells := 0, slots := 0, locals := 157 } : Room) 0 0 [.ref a0] σ o τ := by
  refine j_start l hst (own := RX6) (by decide) rfl (Nat.le_of_ble_eq_true rfl) ?_
  intro p e s m args below meth c C hE hin
  unfold J_X6_textsChanged at h
  show jW p l e ({ frames := 7, cells := 0, slots := 0, locals := 157 } : Room) s m args below meth c g (jQ below g o τ args s 0 0) 0 0 0 [(0, .ref a0)] [] σ
  refine r_iconst C (v := 0) 1 rfl dX6_textsChanged_0 (by decide) ?_
  refine r_istore_n C 2 rfl [(1, .int 0), (0, .ref a0)] dX6_textsChanged_1 (by decide) rfl ?_
  refine r_iconst C (v := 0) 3 rfl dX6_textsChanged_2 (by decide) ?_
  refine r_istore_n C 4 rfl [(2, .int 0), (1, .int 0), (0, .ref a0)] dX6_textsChanged_3 (by decide) rfl ?_
  refine r_iconst C (v := 0) 5 rfl dX6_textsChanged_4 (by decide) ?_
  refine r_istore_n C 6 rfl [(3, .int 0), (2, .int 0), (1, .int 0), (0, .ref a0)] dX6_textsChanged_5 (by decide) rfl ?_
  refine r_lv [3, 2, 1, 0] rfl ?_
  refine w_X6_textsChanged_L6 l hst  C hE  jN a0 0 0 0 σ h

def J_X6_addRule_L84b   (rc : Nat → Int32 → Int32 → Int32 → Int32 → Int32 → Hp → jR) (a0 : Nat) (v1 : Int32) (v2 : Int32) (v3 : Int32) (v4 : Int32) (v6 : Int32) (t0 : Hp) : jR := jj (fun (t17 : Hp) => jcv t17 a0 6 (J_X6_puts a0 v6 v4 v1 v2 v3 t17) (fun w19 t18 => jvV w19 (jgI t18 a0 6 7 (fun x20 => jpI t18 a0 6 7 (x20 + 1) (fun t21 => jpI t21 a0 6 2 0 (fun t22 => jcv t22 a0 6 (J_X6_textsChanged a0 t22) (fun w24 t23 => jvI w24 (fun x25 => some (.inl (some (.int v6)), t23))) (fun E t => some (.inr E, t))))))) (fun E t => some (.inr E, t))) (fun j119 => (if v6 ≤ 0 then j119 t0 else jgR t0 a0 6 3 (fun r26 => jdr r26 (fun b27 => jaI t0 b27 (v6 - 1) (fun x28 => (if x28 ≤ v4 then j119 t0 else jcv t0 a0 6 (J_X6_moves a0 (v6 - 1) v6 t0) (fun w30 t29 => jvV w30 (rc a0 v1 v2 v3 v4 (v6 + (-1)) t29)) (fun E t => some (.inr E, t))))))))
def J_X6_addRule_L84   : Nat → Nat → Int32 → Int32 → Int32 → Int32 → Int32 → Hp → jR
  | 0 => fun _ _ _ _ _ _ _ => none
  | n + 1 => J_X6_addRule_L84b   (J_X6_addRule_L84   n)
def J_X6_addRule  (a0 : Nat) (v1 : Int32) (v2 : Int32) (v3 : Int32) (σ : Hp) : jR := jcv σ a0 6 (J_X6_ruleLetters a0 σ) (fun w2 t1 => jvI w2 (fun x3 => jcs (J_X6_areFine v1 v2 v3 t1) (fun w5 t4 => jvI w5 (fun x6 => jj (fun (x7 : Int32) (t8 : Hp) => jj (fun (x9 : Int32) (t10 : Hp) => jcv t10 a0 6 (J_X6_goesOn a0 x9 t10) (fun w12 t11 => jvI w12 (fun x13 => (if x13 = 0 then some (.inl (some (.int 0)), t11) else jcv t11 a0 6 (J_X6_keepsCells a0 t11) (fun w15 t14 => jvV w15 (jgI t14 a0 6 7 (fun x16 => J_X6_addRule_L84   jN a0 v1 v2 v3 x3 x16 t14))) (fun E t => some (.inr E, t))))) (fun E t => some (.inr E, t))) (fun j66 => (if x7 = 0 then j66 1 t8 else jgI t8 a0 6 7 (fun x31 => (if x31 = 40 then j66 2 t8 else jcv t8 a0 6 (J_X6_ruleOf a0 x3 t8) (fun w33 t32 => jvI w33 (fun x34 => (if x34 = ((-1)) then j66 0 t32 else j66 3 t32))) (fun E t => some (.inr E, t))))))) (fun j26 => jj (fun (t35 : Hp) => j26 0 t35) (fun j25 => (if x6 = 0 then j25 t4 else (if x3 = ((-1)) then j25 t4 else j26 1 t4)))))) (fun E t => some (.inr E, t)))) (fun E t => some (.inr E, t))
set_option maxHeartbeats 4000000 in
set_option maxRecDepth 100000 in
theorem w_X6_addRule_L84 (l : Launch) (hst : l.stackTraces = false) {p : Program} {e : Env} {s : State} {m : MethodId} {args : Array Value} {below : List Frame} {meth : Method} {c : Code} {g : jG} {o : jO} {τ : Hp}  (C : jC p l s m args meth c g RX6 cX6_addRule 8 (some FieldType.int)) (hE : ∀ x ∈ c.exceptionTable.toList, False)  : ∀ (n : Nat) (a0 : Nat) (v1 : Int32) (v2 : Int32) (v3 : Int32) (v4 : Int32) (v6 : Int32) (t0 : Hp), J_X6_addRule_L84   n a0 v1 v2 v3 v4 v6 t0 = some (o, τ) → jW p l e ({ frames := 8, cells := 0, slots := 0, locals := 186 } : Room) s m args below meth c g (jQ below g o τ args s 0 0) 0 0 84 [(0, .ref a0), (1, .int v1), (2, .int v2), (3, .int v3), (4, .int v4), (6, .int v6)] [] t0 := by
  intro n
  induction n with
  | zero => intro a0 v1 v2 v3 v4 v6 t0 h; cases h
  | succ n ih =>
    intro a0 v1 v2 v3 v4 v6 t0 h
    have h : J_X6_addRule_L84b   (J_X6_addRule_L84   n) a0 v1 v2 v3 v4 v6 t0 = some (o, τ) := h
    unfold J_X6_addRule_L84b at h
    refine r_iload C 86 rfl 5 dX6_addRule_84 rfl ?_
    obtain ⟨j119, hj119E, h⟩ := jj_some h
    have hj119 : ∀ (t17 : Hp), j119 t17 = some (o, τ) → jW p l e ({ frames := 8, cells := 0, slots := 0, locals := 186 } : Room) s m args below meth c g (jQ below g o τ args s 0 0) 0 0 119 [(0, .ref a0), (1, .int v1), (2, .int v2), (3, .int v3), (4, .int v4), (6, .int v6)] [] t17 := by
      subst hj119E
      intro t17 h
      refine r_aload_n C (x := some a0) 120 rfl 0 dX6_addRule_119 rfl ?_
      refine r_iload C 122 rfl 5 dX6_addRule_120 rfl ?_
      refine r_iload C 124 rfl 4 dX6_addRule_122 rfl ?_
      refine r_iload_n C 125 rfl 1 dX6_addRule_124 rfl ?_
      refine r_iload_n C 126 rfl 2 dX6_addRule_125 rfl ?_
      refine r_iload_n C 127 rfl 3 dX6_addRule_126 rfl ?_
      refine r_callV C (ci := 6) mm_X6_120 im_yX6_puts se_yX6_puts rfl 130 0 0 rfl rfl rfl dX6_addRule_127 rfl rfl (As := [.int v6, .int v4, .int v1, .int v2, .int v3]) rfl rfl (Nat.le_of_ble_eq_true rfl) ⟨Nat.le_of_ble_eq_true rfl, Nat.le_of_ble_eq_true rfl⟩ ⟨(Nat.le_of_ble_eq_true rfl), (Nat.le_of_ble_eq_true rfl)⟩ (fun o t h => k_X6_puts l hst g _ _ _ _ _ _ _ o t h) h (fun w19 t18 h => ?_) (fun E t h => r_out C (fun x hx => (hE x hx).elim) (Nat.le_refl _) (Nat.le_refl _) h)
      replace h := jvV_some h
      obtain ⟨rfl, h⟩ := h
      refine r_aload_n C (x := some a0) 131 rfl 0 dX6_addRule_130 rfl ?_
      refine r_dup C 132 rfl dX6_addRule_131 rfl ?_
      refine r_getI C 135 rfl ff_X6_100 dX6_addRule_132 h (fun x20 h => ?_)
      refine r_iconst C (v := 1) 136 rfl dX6_addRule_135 (by decide) ?_
      refine r_iadd C 137 rfl dX6_addRule_136 ?_
      refine r_putI C 140 rfl fp_X6_100 dX6_addRule_137 h (fun t21 h => ?_)
      refine r_aload_n C (x := some a0) 141 rfl 0 dX6_addRule_140 rfl ?_
      refine r_iconst C (v := 0) 142 rfl dX6_addRule_141 (by decide) ?_
      refine r_putI C 145 rfl fp_X6_81 dX6_addRule_142 h (fun t22 h => ?_)
      refine r_aload_n C (x := some a0) 146 rfl 0 dX6_addRule_145 rfl ?_
      refine r_callV C (ci := 6) mm_X6_124 im_yX6_textsChanged se_yX6_textsChanged rfl 149 0 0 rfl rfl rfl dX6_addRule_146 rfl rfl (As := []) rfl rfl (Nat.le_of_ble_eq_true rfl) ⟨Nat.le_of_ble_eq_true rfl, Nat.le_of_ble_eq_true rfl⟩ ⟨(Nat.le_of_ble_eq_true rfl), (Nat.le_of_ble_eq_true rfl)⟩ (fun o t h => k_X6_textsChanged l hst g _ _ o t h) h (fun w24 t23 h => ?_) (fun E t h => r_out C (fun x hx => (hE x hx).elim) (Nat.le_refl _) (Nat.le_refl _) h)
      replace h := jvI_some h
      obtain ⟨x25, rfl, h⟩ := h
      refine r_istore C 151 rfl [(7, .int x25), (0, .ref a0), (1, .int v1), (2, .int v2), (3, .int v3), (4, .int v4), (6, .int v6)] dX6_addRule_149 (by decide) rfl ?_
      refine r_iload C 153 rfl 6 dX6_addRule_151 rfl ?_
      exact r_iret C dX6_addRule_153 (Nat.le_refl _) (Nat.le_refl _) h
    clear hj119E
    refine r_if_le C 119 89 rfl dX6_addRule_86 (by decide) h (fun h => ?_) (fun h => ?_)
    · exact hj119 t0 h
    · refine r_aload_n C (x := some a0) 90 rfl 0 dX6_addRule_89 rfl ?_
      refine r_getR C 93 rfl ff_X6_13 dX6_addRule_90 h (fun r26 h => ?_)
      refine r_iload C 95 rfl 5 dX6_addRule_93 rfl ?_
      refine r_iconst C (v := 1) 96 rfl dX6_addRule_95 (by decide) ?_
      refine r_isub C 97 rfl dX6_addRule_96 ?_
      replace h := jdr_some h
      obtain ⟨b27, hr, h⟩ := h
      rw [hr]
      refine r_iald C 98 rfl dX6_addRule_97 h (fun x28 h => ?_)
      refine r_iload C 100 rfl 4 dX6_addRule_98 rfl ?_
      refine r_icmp_le C 119 103 rfl dX6_addRule_100 (by decide) h (fun h => ?_) (fun h => ?_)
      · exact hj119 t0 h
      · refine r_aload_n C (x := some a0) 104 rfl 0 dX6_addRule_103 rfl ?_
        refine r_iload C 106 rfl 5 dX6_addRule_104 rfl ?_
        refine r_iconst C (v := 1) 107 rfl dX6_addRule_106 (by decide) ?_
        refine r_isub C 108 rfl dX6_addRule_107 ?_
        refine r_iload C 110 rfl 5 dX6_addRule_108 rfl ?_
        refine r_callV C (ci := 6) mm_X6_116 im_yX6_moves se_yX6_moves rfl 113 0 0 rfl rfl rfl dX6_addRule_110 rfl rfl (As := [.int (v6 - 1), .int v6]) rfl rfl (Nat.le_of_ble_eq_true rfl) ⟨Nat.le_of_ble_eq_true rfl, Nat.le_of_ble_eq_true rfl⟩ ⟨(Nat.le_of_ble_eq_true rfl), (Nat.le_of_ble_eq_true rfl)⟩ (fun o t h => k_X6_moves l hst g _ _ _ _ o t h) h (fun w30 t29 h => ?_) (fun E t h => r_out C (fun x hx => (hE x hx).elim) (Nat.le_refl _) (Nat.le_refl _) h)
        replace h := jvV_some h
        obtain ⟨rfl, h⟩ := h
        refine r_iinc C (v := v6 + (-1)) 116 rfl 5 [(6, .int (v6 + (-1))), (0, .ref a0), (1, .int v1), (2, .int v2), (3, .int v3), (4, .int v4)] dX6_addRule_113 rfl rfl (by decide) rfl ?_
        refine r_goto C 84 dX6_addRule_116 (by decide) ?_
        refine r_lv [1, 2, 3, 4, 5, 0] rfl ?_
        exact ih a0 v1 v2 v3 v4 (v6 + (-1)) t29 h
set_option maxHeartbeats 4000000 in
set_option maxRecDepth 100000 in
theorem k_X6_addRule (l : Launch) (hst : l.stackTraces = false) (g : jG)   (a0 : Nat) (v1 : Int32) (v2 : Int32) (v3 : Int32) (σ : Hp) (o : jO) (τ : Hp) (h : J_X6_addRule a0 v1 v2 v3 σ = some (o, τ)) : jMet l g yX6_addRule (Cond.code yX6_addRule cX6_addRule 8 (some FieldType.int) :: gT) ({ frames := 8, cells := 0, slots := 0, locals := 186 } : Room) 0 0 [.ref a0, .int v1, .int v2, .int v3] σ o τ := by
  refine j_start l hst (own := RX6) (by decide) rfl (Nat.le_of_ble_eq_true rfl) ?_
  intro p e s m args below meth c C hE hin
  unfold J_X6_addRule at h
  show jW p l e ({ frames := 8, cells := 0, slots := 0, locals := 186 } : Room) s m args below meth c g (jQ below g o τ args s 0 0) 0 0 0 [(0, .ref a0), (1, .int v1), (2, .int v2), (3, .int v3)] [] σ
  refine r_aload_n C (x := some a0) 1 rfl 0 dX6_addRule_0 rfl ?_
  refine r_callV C (ci := 6) mm_X6_103 im_yX6_ruleLetters se_yX6_ruleLetters rfl 4 0 0 rfl rfl rfl dX6_addRule_1 rfl rfl (As := []) rfl rfl (Nat.le_of_ble_eq_true rfl) ⟨Nat.le_of_ble_eq_true rfl, Nat.le_of_ble_eq_true rfl⟩ ⟨(Nat.le_of_ble_eq_true rfl), (Nat.le_of_ble_eq_true rfl)⟩ (fun o t h => k_X6_ruleLetters l hst g _ _ o t h) h (fun w2 t1 h => ?_) (fun E t h => r_out C (fun x hx => (hE x hx).elim) (Nat.le_refl _) (Nat.le_refl _) h)
  replace h := jvI_some h
  obtain ⟨x3, rfl, h⟩ := h
  refine r_istore C 6 rfl [(4, .int x3), (0, .ref a0), (1, .int v1), (2, .int v2), (3, .int v3)] dX6_addRule_4 (by decide) rfl ?_
  refine r_iload_n C 7 rfl 2 dX6_addRule_6 rfl ?_
  refine r_iload_n C 8 rfl 3 dX6_addRule_7 rfl ?_
  refine r_iload_n C 9 rfl 4 dX6_addRule_8 rfl ?_
  refine r_callS C mm_X6_107 st_yX6_areFine 12 0 0 rfl rfl rfl dX6_addRule_9 rfl rfl (As := [.int v1, .int v2, .int v3]) rfl rfl (Nat.le_of_ble_eq_true rfl) ⟨Nat.le_of_ble_eq_true rfl, Nat.le_of_ble_eq_true rfl⟩ ⟨(Nat.le_of_ble_eq_true rfl), (Nat.le_of_ble_eq_true rfl)⟩ (fun o t h => k_X6_areFine l hst g _ _ _ _ o t h) h (fun w5 t4 h => ?_) (fun E t h => r_out C (fun x hx => (hE x hx).elim) (Nat.le_refl _) (Nat.le_refl _) h)
  replace h := jvI_some h
  obtain ⟨x6, rfl, h⟩ := h
  obtain ⟨j26, hj26E, h⟩ := jj_some h
  have hj26 : ∀ (x7 : Int32) (t8 : Hp), j26 x7 t8 = some (o, τ) → jW p l e ({ frames := 8, cells := 0, slots := 0, locals := 186 } : Room) s m args below meth c g (jQ below g o τ args s 0 0) 0 0 26 [(0, .ref a0), (1, .int v1), (2, .int v2), (3, .int v3), (4, .int x3)] [.int x7] t8 := by
    subst hj26E
    intro x7 t8 h
    refine r_istore C 28 rfl [(5, .int x7), (0, .ref a0), (1, .int v1), (2, .int v2), (3, .int v3), (4, .int x3)] dX6_addRule_26 (by decide) rfl ?_
    refine r_aload_n C (x := some a0) 29 rfl 1 dX6_addRule_28 rfl ?_
    refine r_iload C 31 rfl 0 dX6_addRule_29 rfl ?_
    obtain ⟨j66, hj66E, h⟩ := jj_some h
    have hj66 : ∀ (x9 : Int32) (t10 : Hp), j66 x9 t10 = some (o, τ) → jW p l e ({ frames := 8, cells := 0, slots := 0, locals := 186 } : Room) s m args below meth c g (jQ below g o τ args s 0 0) 0 0 66 [(0, .ref a0), (1, .int v1), (2, .int v2), (3, .int v3), (4, .int x3)] [.int x9, .ref a0] t10 := by
      subst hj66E
      intro x9 t10 h
      refine r_callV C (ci := 6) mm_X6_84 im_yX6_goesOn se_yX6_goesOn rfl 69 0 0 rfl rfl rfl dX6_addRule_66 rfl rfl (As := [.int x9]) rfl rfl (Nat.le_of_ble_eq_true rfl) ⟨Nat.le_of_ble_eq_true rfl, Nat.le_of_ble_eq_true rfl⟩ ⟨(Nat.le_of_ble_eq_true rfl), (Nat.le_of_ble_eq_true rfl)⟩ (fun o t h => k_X6_goesOn l hst g _ _ _ o t h) h (fun w12 t11 h => ?_) (fun E t h => r_out C (fun x hx => (hE x hx).elim) (Nat.le_refl _) (Nat.le_refl _) h)
      replace h := jvI_some h
      obtain ⟨x13, rfl, h⟩ := h
      refine r_if_ne C 74 72 rfl dX6_addRule_69 (by decide) h (fun h => ?_) (fun h => ?_)
      · refine r_aload_n C (x := some a0) 75 rfl 0 dX6_addRule_74 rfl ?_
        refine r_callV C (ci := 6) mm_X6_113 im_yX6_keepsCells se_yX6_keepsCells rfl 78 0 0 rfl rfl rfl dX6_addRule_75 rfl rfl (As := []) rfl rfl (Nat.le_of_ble_eq_true rfl) ⟨Nat.le_of_ble_eq_true rfl, Nat.le_of_ble_eq_true rfl⟩ ⟨(Nat.le_of_ble_eq_true rfl), (Nat.le_of_ble_eq_true rfl)⟩ (fun o t h => k_X6_keepsCells l hst g _ _ o t h) h (fun w15 t14 h => ?_) (fun E t h => r_out C (fun x hx => (hE x hx).elim) (Nat.le_refl _) (Nat.le_refl _) h)
        replace h := jvV_some h
        obtain ⟨rfl, h⟩ := h
        refine r_aload_n C (x := some a0) 79 rfl 0 dX6_addRule_78 rfl ?_
        refine r_getI C 82 rfl ff_X6_100 dX6_addRule_79 h (fun x16 h => ?_)
        refine r_istore C 84 rfl [(6, .int x16), (0, .ref a0), (1, .int v1), (2, .int v2), (3, .int v3), (4, .int x3)] dX6_addRule_82 (by decide) rfl ?_
        refine r_lv [1, 2, 3, 4, 5, 0] rfl ?_
        refine w_X6_addRule_L84 l hst  C hE  jN a0 v1 v2 v3 x3 x16 t14 h
      · refine r_iconst C (v := 0) 73 rfl dX6_addRule_72 (by decide) ?_
        exact r_iret C dX6_addRule_73 (Nat.le_refl _) (Nat.le_refl _) h
    clear hj66E
    refine r_if_ne C 38 34 rfl dX6_addRule_31 (by decide) h (fun h => ?_) (fun h => ?_)
    · refine r_aload_n C (x := some a0) 39 rfl 1 dX6_addRule_38 rfl ?_
      refine r_getI C 42 rfl ff_X6_100 dX6_addRule_39 h (fun x31 h => ?_)
      refine r_bipush C (v := 40) 44 rfl dX6_addRule_42 (by decide) ?_
      refine r_icmp_ne C 51 47 rfl dX6_addRule_44 (by decide) h (fun h => ?_) (fun h => ?_)
      · refine r_aload_n C (x := some a0) 52 rfl 1 dX6_addRule_51 rfl ?_
        refine r_iload C 54 rfl 5 dX6_addRule_52 rfl ?_
        refine r_callV C (ci := 6) mm_X6_110 im_yX6_ruleOf se_yX6_ruleOf rfl 57 0 0 rfl rfl rfl dX6_addRule_54 rfl rfl (As := [.int x3]) rfl rfl (Nat.le_of_ble_eq_true rfl) ⟨Nat.le_of_ble_eq_true rfl, Nat.le_of_ble_eq_true rfl⟩ ⟨(Nat.le_of_ble_eq_true rfl), (Nat.le_of_ble_eq_true rfl)⟩ (fun o t h => k_X6_ruleOf l hst g _ _ _ o t h) h (fun w33 t32 h => ?_) (fun E t h => r_out C (fun x hx => (hE x hx).elim) (Nat.le_refl _) (Nat.le_refl _) h)
        replace h := jvI_some h
        obtain ⟨x34, rfl, h⟩ := h
        refine r_iconst C (v := (-1)) 58 rfl dX6_addRule_57 (by decide) ?_
        refine r_icmp_eq C 65 61 rfl dX6_addRule_58 (by decide) h (fun h => ?_) (fun h => ?_)
        · refine r_iconst C (v := 0) 66 rfl dX6_addRule_65 (by decide) ?_
          refine r_lv [1, 2, 3, 4, 5] rfl ?_
          exact hj66 0 t32 h
        · refine r_iconst C (v := 3) 62 rfl dX6_addRule_61 (by decide) ?_
          refine r_goto C 66 dX6_addRule_62 (by decide) ?_
          refine r_lv [1, 2, 3, 4, 5] rfl ?_
          exact hj66 3 t32 h
      · refine r_iconst C (v := 2) 48 rfl dX6_addRule_47 (by decide) ?_
        refine r_goto C 66 dX6_addRule_48 (by decide) ?_
        refine r_lv [1, 2, 3, 4, 5] rfl ?_
        exact hj66 2 t8 h
    · refine r_iconst C (v := 1) 35 rfl dX6_addRule_34 (by decide) ?_
      refine r_goto C 66 dX6_addRule_35 (by decide) ?_
      refine r_lv [1, 2, 3, 4, 5] rfl ?_
      exact hj66 1 t8 h
  clear hj26E
  obtain ⟨j25, hj25E, h⟩ := jj_some h
  have hj25 : ∀ (t35 : Hp), j25 t35 = some (o, τ) → jW p l e ({ frames := 8, cells := 0, slots := 0, locals := 186 } : Room) s m args below meth c g (jQ below g o τ args s 0 0) 0 0 25 [(0, .ref a0), (1, .int v1), (2, .int v2), (3, .int v3), (4, .int x3)] [] t35 := by
    subst hj25E
    intro t35 h
    refine r_iconst C (v := 0) 26 rfl dX6_addRule_25 (by decide) ?_
    exact hj26 0 t35 h
  clear hj25E
  refine r_if_eq C 25 15 rfl dX6_addRule_12 (by decide) h (fun h => ?_) (fun h => ?_)
  · refine r_lv [1, 2, 3, 4, 0] rfl ?_
    exact hj25 t4 h
  · refine r_iload C 17 rfl 0 dX6_addRule_15 rfl ?_
    refine r_iconst C (v := (-1)) 18 rfl dX6_addRule_17 (by decide) ?_
    refine r_icmp_eq C 25 21 rfl dX6_addRule_18 (by decide) h (fun h => ?_) (fun h => ?_)
    · refine r_lv [1, 2, 3, 4, 0] rfl ?_
      exact hj25 t4 h
    · refine r_iconst C (v := 1) 22 rfl dX6_addRule_21 (by decide) ?_
      refine r_goto C 26 dX6_addRule_22 (by decide) ?_
      refine r_lv [1, 2, 3, 4, 0] rfl ?_
      exact hj26 1 t4 h

def J_X6_mend  (a0 : Nat) (v1 : Int32) (v2 : Int32) (v3 : Int32) (σ : Hp) : jR := jcv σ a0 6 (J_X6_ruleLetters a0 σ) (fun w2 t1 => jvI w2 (fun x3 => jj (fun (x4 : Int32) (t5 : Hp) => jcs (J_X6_areFine v1 v2 v3 t5) (fun w7 t6 => jvI w7 (fun x8 => jj (fun (x9 : Int32) (t10 : Hp) => jcv t10 a0 6 (J_X6_goesOn a0 x9 t10) (fun w12 t11 => jvI w12 (fun x13 => (if x13 = 0 then some (.inl (some (.int 0)), t11) else jcv t11 a0 6 (J_X6_keepsCells a0 t11) (fun w15 t14 => jvV w15 (jcv t14 a0 6 (J_X6_puts a0 x4 x3 v1 v2 v3 t14) (fun w17 t16 => jvV w17 (jpI t16 a0 6 2 0 (fun t18 => jcv t18 a0 6 (J_X6_textsChanged a0 t18) (fun w20 t19 => jvI w20 (fun x21 => some (.inl (some (.int x21)), t19))) (fun E t => some (.inr E, t))))) (fun E t => some (.inr E, t)))) (fun E t => some (.inr E, t))))) (fun E t => some (.inr E, t))) (fun j49 => (if x8 = 0 then j49 1 t6 else (if x4 = ((-1)) then j49 2 t6 else j49 0 t6))))) (fun E t => some (.inr E, t))) (fun j22 => (if x3 = ((-1)) then j22 ((-1)) t1 else jcv t1 a0 6 (J_X6_ruleOf a0 x3 t1) (fun w23 t22 => jvI w23 (fun x24 => j22 x24 t22)) (fun E t => some (.inr E, t)))))) (fun E t => some (.inr E, t))
set_option maxHeartbeats 4000000 in
set_option maxRecDepth 100000 in
theorem k_X6_mend (l : Launch) (hst : l.stackTraces = false) (g : jG)   (a0 : Nat) (v1 : Int32) (v2 : Int32) (v3 : Int32) (σ : Hp) (o : jO) (τ : Hp) (h : J_X6_mend a0 v1 v2 v3 σ = some (o, τ)) : jMet l g yX6_mend (Cond.code yX6_mend cX6_mend 6 (some FieldType.int) :: gT) ({ frames := 8, cells := 0, slots := 0, locals := 186 } : Room) 0 0 [.ref a0, .int v1, .int v2, .int v3] σ o τ := by
  refine j_start l hst (own := RX6) (by decide) rfl (Nat.le_of_ble_eq_true rfl) ?_
  intro p e s m args below meth c C hE hin
  unfold J_X6_mend at h
  show jW p l e ({ frames := 8, cells := 0, slots := 0, locals := 186 } : Room) s m args below meth c g (jQ below g o τ args s 0 0) 0 0 0 [(0, .ref a0), (1, .int v1), (2, .int v2), (3, .int v3)] [] σ
  refine r_aload_n C (x := some a0) 1 rfl 0 dX6_mend_0 rfl ?_
  refine r_callV C (ci := 6) mm_X6_103 im_yX6_ruleLetters se_yX6_ruleLetters rfl 4 0 0 rfl rfl rfl dX6_mend_1 rfl rfl (As := []) rfl rfl (Nat.le_of_ble_eq_true rfl) ⟨Nat.le_of_ble_eq_true rfl, Nat.le_of_ble_eq_true rfl⟩ ⟨(Nat.le_of_ble_eq_true rfl), (Nat.le_of_ble_eq_true rfl)⟩ (fun o t h => k_X6_ruleLetters l hst g _ _ o t h) h (fun w2 t1 h => ?_) (fun E t h => r_out C (fun x hx => (hE x hx).elim) (Nat.le_refl _) (Nat.le_refl _) h)
  replace h := jvI_some h
  obtain ⟨x3, rfl, h⟩ := h
  refine r_istore C 6 rfl [(4, .int x3), (0, .ref a0), (1, .int v1), (2, .int v2), (3, .int v3)] dX6_mend_4 (by decide) rfl ?_
  refine r_iload C 8 rfl 0 dX6_mend_6 rfl ?_
  refine r_iconst C (v := (-1)) 9 rfl dX6_mend_8 (by decide) ?_
  obtain ⟨j22, hj22E, h⟩ := jj_some h
  have hj22 : ∀ (x4 : Int32) (t5 : Hp), j22 x4 t5 = some (o, τ) → jW p l e ({ frames := 8, cells := 0, slots := 0, locals := 186 } : Room) s m args below meth c g (jQ below g o τ args s 0 0) 0 0 22 [(0, .ref a0), (1, .int v1), (2, .int v2), (3, .int v3), (4, .int x3)] [.int x4] t5 := by
    subst hj22E
    intro x4 t5 h
    refine r_istore C 24 rfl [(5, .int x4), (0, .ref a0), (1, .int v1), (2, .int v2), (3, .int v3), (4, .int x3)] dX6_mend_22 (by decide) rfl ?_
    refine r_aload_n C (x := some a0) 25 rfl 1 dX6_mend_24 rfl ?_
    refine r_iload_n C 26 rfl 2 dX6_mend_25 rfl ?_
    refine r_iload_n C 27 rfl 3 dX6_mend_26 rfl ?_
    refine r_iload_n C 28 rfl 4 dX6_mend_27 rfl ?_
    refine r_callS C mm_X6_107 st_yX6_areFine 31 0 0 rfl rfl rfl dX6_mend_28 rfl rfl (As := [.int v1, .int v2, .int v3]) rfl rfl (Nat.le_of_ble_eq_true rfl) ⟨Nat.le_of_ble_eq_true rfl, Nat.le_of_ble_eq_true rfl⟩ ⟨(Nat.le_of_ble_eq_true rfl), (Nat.le_of_ble_eq_true rfl)⟩ (fun o t h => k_X6_areFine l hst g _ _ _ _ o t h) h (fun w7 t6 h => ?_) (fun E t h => r_out C (fun x hx => (hE x hx).elim) (Nat.le_refl _) (Nat.le_refl _) h)
    replace h := jvI_some h
    obtain ⟨x8, rfl, h⟩ := h
    obtain ⟨j49, hj49E, h⟩ := jj_some h
    have hj49 : ∀ (x9 : Int32) (t10 : Hp), j49 x9 t10 = some (o, τ) → jW p l e ({ frames := 8, cells := 0, slots := 0, locals := 186 } : Room) s m args below meth c g (jQ below g o τ args s 0 0) 0 0 49 [(0, .ref a0), (1, .int v1), (2, .int v2), (3, .int v3), (4, .int x3), (5, .int x4)] [.int x9, .ref a0] t10 := by
      subst hj49E
      intro x9 t10 h
      refine r_callV C (ci := 6) mm_X6_84 im_yX6_goesOn se_yX6_goesOn rfl 52 0 0 rfl rfl rfl dX6_mend_49 rfl rfl (As := [.int x9]) rfl rfl (Nat.le_of_ble_eq_true rfl) ⟨Nat.le_of_ble_eq_true rfl, Nat.le_of_ble_eq_true rfl⟩ ⟨(Nat.le_of_ble_eq_true rfl), (Nat.le_of_ble_eq_true rfl)⟩ (fun o t h => k_X6_goesOn l hst g _ _ _ o t h) h (fun w12 t11 h => ?_) (fun E t h => r_out C (fun x hx => (hE x hx).elim) (Nat.le_refl _) (Nat.le_refl _) h)
      replace h := jvI_some h
      obtain ⟨x13, rfl, h⟩ := h
      refine r_if_ne C 57 55 rfl dX6_mend_52 (by decide) h (fun h => ?_) (fun h => ?_)
      · refine r_aload_n C (x := some a0) 58 rfl 0 dX6_mend_57 rfl ?_
        refine r_callV C (ci := 6) mm_X6_113 im_yX6_keepsCells se_yX6_keepsCells rfl 61 0 0 rfl rfl rfl dX6_mend_58 rfl rfl (As := []) rfl rfl (Nat.le_of_ble_eq_true rfl) ⟨Nat.le_of_ble_eq_true rfl, Nat.le_of_ble_eq_true rfl⟩ ⟨(Nat.le_of_ble_eq_true rfl), (Nat.le_of_ble_eq_true rfl)⟩ (fun o t h => k_X6_keepsCells l hst g _ _ o t h) h (fun w15 t14 h => ?_) (fun E t h => r_out C (fun x hx => (hE x hx).elim) (Nat.le_refl _) (Nat.le_refl _) h)
        replace h := jvV_some h
        obtain ⟨rfl, h⟩ := h
        refine r_aload_n C (x := some a0) 62 rfl 0 dX6_mend_61 rfl ?_
        refine r_iload C 64 rfl 5 dX6_mend_62 rfl ?_
        refine r_iload C 66 rfl 4 dX6_mend_64 rfl ?_
        refine r_iload_n C 67 rfl 1 dX6_mend_66 rfl ?_
        refine r_iload_n C 68 rfl 2 dX6_mend_67 rfl ?_
        refine r_iload_n C 69 rfl 3 dX6_mend_68 rfl ?_
        refine r_callV C (ci := 6) mm_X6_120 im_yX6_puts se_yX6_puts rfl 72 0 0 rfl rfl rfl dX6_mend_69 rfl rfl (As := [.int x4, .int x3, .int v1, .int v2, .int v3]) rfl rfl (Nat.le_of_ble_eq_true rfl) ⟨Nat.le_of_ble_eq_true rfl, Nat.le_of_ble_eq_true rfl⟩ ⟨(Nat.le_of_ble_eq_true rfl), (Nat.le_of_ble_eq_true rfl)⟩ (fun o t h => k_X6_puts l hst g _ _ _ _ _ _ _ o t h) h (fun w17 t16 h => ?_) (fun E t h => r_out C (fun x hx => (hE x hx).elim) (Nat.le_refl _) (Nat.le_refl _) h)
        replace h := jvV_some h
        obtain ⟨rfl, h⟩ := h
        refine r_aload_n C (x := some a0) 73 rfl 0 dX6_mend_72 rfl ?_
        refine r_iconst C (v := 0) 74 rfl dX6_mend_73 (by decide) ?_
        refine r_putI C 77 rfl fp_X6_81 dX6_mend_74 h (fun t18 h => ?_)
        refine r_aload_n C (x := some a0) 78 rfl 0 dX6_mend_77 rfl ?_
        refine r_callV C (ci := 6) mm_X6_124 im_yX6_textsChanged se_yX6_textsChanged rfl 81 0 0 rfl rfl rfl dX6_mend_78 rfl rfl (As := []) rfl rfl (Nat.le_of_ble_eq_true rfl) ⟨Nat.le_of_ble_eq_true rfl, Nat.le_of_ble_eq_true rfl⟩ ⟨(Nat.le_of_ble_eq_true rfl), (Nat.le_of_ble_eq_true rfl)⟩ (fun o t h => k_X6_textsChanged l hst g _ _ o t h) h (fun w20 t19 h => ?_) (fun E t h => r_out C (fun x hx => (hE x hx).elim) (Nat.le_refl _) (Nat.le_refl _) h)
        replace h := jvI_some h
        obtain ⟨x21, rfl, h⟩ := h
        exact r_iret C dX6_mend_81 (Nat.le_refl _) (Nat.le_refl _) h
      · refine r_iconst C (v := 0) 56 rfl dX6_mend_55 (by decide) ?_
        exact r_iret C dX6_mend_56 (Nat.le_refl _) (Nat.le_refl _) h
    clear hj49E
    refine r_if_ne C 38 34 rfl dX6_mend_31 (by decide) h (fun h => ?_) (fun h => ?_)
    · refine r_iload C 40 rfl 0 dX6_mend_38 rfl ?_
      refine r_iconst C (v := (-1)) 41 rfl dX6_mend_40 (by decide) ?_
      refine r_icmp_ne C 48 44 rfl dX6_mend_41 (by decide) h (fun h => ?_) (fun h => ?_)
      · refine r_iconst C (v := 0) 49 rfl dX6_mend_48 (by decide) ?_
        refine r_lv [1, 2, 3, 4, 5, 0] rfl ?_
        exact hj49 0 t6 h
      · refine r_iconst C (v := 2) 45 rfl dX6_mend_44 (by decide) ?_
        refine r_goto C 49 dX6_mend_45 (by decide) ?_
        refine r_lv [1, 2, 3, 4, 5, 0] rfl ?_
        exact hj49 2 t6 h
    · refine r_iconst C (v := 1) 35 rfl dX6_mend_34 (by decide) ?_
      refine r_goto C 49 dX6_mend_35 (by decide) ?_
      refine r_lv [1, 2, 3, 4, 5, 0] rfl ?_
      exact hj49 1 t6 h
  clear hj22E
  refine r_icmp_ne C 16 12 rfl dX6_mend_9 (by decide) h (fun h => ?_) (fun h => ?_)
  · refine r_aload_n C (x := some a0) 17 rfl 1 dX6_mend_16 rfl ?_
    refine r_iload C 19 rfl 0 dX6_mend_17 rfl ?_
    refine r_callV C (ci := 6) mm_X6_110 im_yX6_ruleOf se_yX6_ruleOf rfl 22 0 0 rfl rfl rfl dX6_mend_19 rfl rfl (As := [.int x3]) rfl rfl (Nat.le_of_ble_eq_true rfl) ⟨Nat.le_of_ble_eq_true rfl, Nat.le_of_ble_eq_true rfl⟩ ⟨(Nat.le_of_ble_eq_true rfl), (Nat.le_of_ble_eq_true rfl)⟩ (fun o t h => k_X6_ruleOf l hst g _ _ _ o t h) h (fun w23 t22 h => ?_) (fun E t h => r_out C (fun x hx => (hE x hx).elim) (Nat.le_refl _) (Nat.le_refl _) h)
    replace h := jvI_some h
    obtain ⟨x24, rfl, h⟩ := h
    refine r_lv [1, 2, 3, 4, 0] rfl ?_
    exact hj22 x24 t22 h
  · refine r_iconst C (v := (-1)) 13 rfl dX6_mend_12 (by decide) ?_
    refine r_goto C 22 dX6_mend_13 (by decide) ?_
    refine r_lv [1, 2, 3, 4, 0] rfl ?_
    exact hj22 ((-1)) t1 h

def J_X6_removeRule_L36b   (rc : Nat → Int32 → Hp → jR) (a0 : Nat) (v2 : Int32) (t0 : Hp) : jR := jgI t0 a0 6 7 (fun x12 => (if x12 ≤ v2 then jgI t0 a0 6 7 (fun x13 => jpI t0 a0 6 7 (x13 - 1) (fun t14 => jcv t14 a0 6 (J_X6_textsChanged a0 t14) (fun w16 t15 => jvI w16 (fun x17 => jgI t15 a0 6 7 (fun x18 => some (.inl (some (.int x18)), t15)))) (fun E t => some (.inr E, t)))) else jcv t0 a0 6 (J_X6_moves a0 v2 (v2 - 1) t0) (fun w20 t19 => jvV w20 (rc a0 (v2 + 1) t19)) (fun E t => some (.inr E, t))))
def J_X6_removeRule_L36   : Nat → Nat → Int32 → Hp → jR
  | 0 => fun _ _ _ => none
  | n + 1 => J_X6_removeRule_L36b   (J_X6_removeRule_L36   n)
def J_X6_removeRule  (a0 : Nat) (v1 : Int32) (σ : Hp) : jR := jgI σ a0 6 7 (fun x1 => jcs (J_X6_in v1 0 (x1 - 1) σ) (fun w3 t2 => jvI w3 (fun x4 => jj (fun (x5 : Int32) (t6 : Hp) => jcv t6 a0 6 (J_X6_goesOn a0 x5 t6) (fun w8 t7 => jvI w8 (fun x9 => (if x9 = 0 then some (.inl (some (.int 0)), t7) else jcv t7 a0 6 (J_X6_keepsCells a0 t7) (fun w11 t10 => jvV w11 (J_X6_removeRule_L36   jN a0 (v1 + 1) t10)) (fun E t => some (.inr E, t))))) (fun E t => some (.inr E, t))) (fun j20 => (if x4 = 0 then j20 1 t2 else j20 0 t2)))) (fun E t => some (.inr E, t)))
set_option maxHeartbeats 4000000 in
set_option maxRecDepth 100000 in
theorem w_X6_removeRule_L36 (l : Launch) (hst : l.stackTraces = false) {p : Program} {e : Env} {s : State} {m : MethodId} {args : Array Value} {below : List Frame} {meth : Method} {c : Code} {g : jG} {o : jO} {τ : Hp}  (C : jC p l s m args meth c g RX6 cX6_removeRule 3 (some FieldType.int)) (hE : ∀ x ∈ c.exceptionTable.toList, False)  : ∀ (n : Nat) (a0 : Nat) (v2 : Int32) (t0 : Hp), J_X6_removeRule_L36   n a0 v2 t0 = some (o, τ) → jW p l e ({ frames := 8, cells := 0, slots := 0, locals := 186 } : Room) s m args below meth c g (jQ below g o τ args s 0 0) 0 0 36 [(0, .ref a0), (2, .int v2)] [] t0 := by
  intro n
  induction n with
  | zero => intro a0 v2 t0 h; cases h
  | succ n ih =>
    intro a0 v2 t0 h
    have h : J_X6_removeRule_L36b   (J_X6_removeRule_L36   n) a0 v2 t0 = some (o, τ) := h
    unfold J_X6_removeRule_L36b at h
    refine r_iload_n C 37 rfl 1 dX6_removeRule_36 rfl ?_
    refine r_aload_n C (x := some a0) 38 rfl 0 dX6_removeRule_37 rfl ?_
    refine r_getI C 41 rfl ff_X6_100 dX6_removeRule_38 h (fun x12 h => ?_)
    refine r_icmp_ge C 58 44 rfl dX6_removeRule_41 (by decide) h (fun h => ?_) (fun h => ?_)
    · refine r_aload_n C (x := some a0) 59 rfl 0 dX6_removeRule_58 rfl ?_
      refine r_dup C 60 rfl dX6_removeRule_59 rfl ?_
      refine r_getI C 63 rfl ff_X6_100 dX6_removeRule_60 h (fun x13 h => ?_)
      refine r_iconst C (v := 1) 64 rfl dX6_removeRule_63 (by decide) ?_
      refine r_isub C 65 rfl dX6_removeRule_64 ?_
      refine r_putI C 68 rfl fp_X6_100 dX6_removeRule_65 h (fun t14 h => ?_)
      refine r_aload_n C (x := some a0) 69 rfl 0 dX6_removeRule_68 rfl ?_
      refine r_callV C (ci := 6) mm_X6_124 im_yX6_textsChanged se_yX6_textsChanged rfl 72 0 0 rfl rfl rfl dX6_removeRule_69 rfl rfl (As := []) rfl rfl (Nat.le_of_ble_eq_true rfl) ⟨Nat.le_of_ble_eq_true rfl, Nat.le_of_ble_eq_true rfl⟩ ⟨(Nat.le_of_ble_eq_true rfl), (Nat.le_of_ble_eq_true rfl)⟩ (fun o t h => k_X6_textsChanged l hst g _ _ o t h) h (fun w16 t15 h => ?_) (fun E t h => r_out C (fun x hx => (hE x hx).elim) (Nat.le_refl _) (Nat.le_refl _) h)
      replace h := jvI_some h
      obtain ⟨x17, rfl, h⟩ := h
      refine r_istore_n C 73 rfl [(2, .int x17), (0, .ref a0)] dX6_removeRule_72 (by decide) rfl ?_
      refine r_aload_n C (x := some a0) 74 rfl 1 dX6_removeRule_73 rfl ?_
      refine r_getI C 77 rfl ff_X6_100 dX6_removeRule_74 h (fun x18 h => ?_)
      exact r_iret C dX6_removeRule_77 (Nat.le_refl _) (Nat.le_refl _) h
    · refine r_aload_n C (x := some a0) 45 rfl 0 dX6_removeRule_44 rfl ?_
      refine r_iload_n C 46 rfl 1 dX6_removeRule_45 rfl ?_
      refine r_iload_n C 47 rfl 1 dX6_removeRule_46 rfl ?_
      refine r_iconst C (v := 1) 48 rfl dX6_removeRule_47 (by decide) ?_
      refine r_isub C 49 rfl dX6_removeRule_48 ?_
      refine r_callV C (ci := 6) mm_X6_116 im_yX6_moves se_yX6_moves rfl 52 0 0 rfl rfl rfl dX6_removeRule_49 rfl rfl (As := [.int v2, .int (v2 - 1)]) rfl rfl (Nat.le_of_ble_eq_true rfl) ⟨Nat.le_of_ble_eq_true rfl, Nat.le_of_ble_eq_true rfl⟩ ⟨(Nat.le_of_ble_eq_true rfl), (Nat.le_of_ble_eq_true rfl)⟩ (fun o t h => k_X6_moves l hst g _ _ _ _ o t h) h (fun w20 t19 h => ?_) (fun E t h => r_out C (fun x hx => (hE x hx).elim) (Nat.le_refl _) (Nat.le_refl _) h)
      replace h := jvV_some h
      obtain ⟨rfl, h⟩ := h
      refine r_iinc C (v := v2 + 1) 55 rfl 1 [(2, .int (v2 + 1)), (0, .ref a0)] dX6_removeRule_52 rfl rfl (by decide) rfl ?_
      refine r_goto C 36 dX6_removeRule_55 (by decide) ?_
      refine r_lv [1, 0] rfl ?_
      exact ih a0 (v2 + 1) t19 h
set_option maxHeartbeats 4000000 in
set_option maxRecDepth 100000 in
theorem k_X6_removeRule (l : Launch) (hst : l.stackTraces = false) (g : jG)   (a0 : Nat) (v1 : Int32) (σ : Hp) (o : jO) (τ : Hp) (h : J_X6_removeRule a0 v1 σ = some (o, τ)) : jMet l g yX6_removeRule (Cond.code yX6_removeRule cX6_removeRule 3 (some FieldType.int) :: gT) ({ frames := 8, cells := 0, slots := 0, locals := 186 } : Room) 0 0 [.ref a0, .int v1] σ o τ := by
  refine j_start l hst (own := RX6) (by decide) rfl (Nat.le_of_ble_eq_true rfl) ?_
  intro p e s m args below meth c C hE hin
  unfold J_X6_removeRule at h
  show jW p l e ({ frames := 8, cells := 0, slots := 0, locals := 186 } : Room) s m args below meth c g (jQ below g o τ args s 0 0) 0 0 0 [(0, .ref a0), (1, .int v1)] [] σ
  refine r_aload_n C (x := some a0) 1 rfl 0 dX6_removeRule_0 rfl ?_
  refine r_iload_n C 2 rfl 1 dX6_removeRule_1 rfl ?_
  refine r_iconst C (v := 0) 3 rfl dX6_removeRule_2 (by decide) ?_
  refine r_aload_n C (x := some a0) 4 rfl 0 dX6_removeRule_3 rfl ?_
  refine r_getI C 7 rfl ff_X6_100 dX6_removeRule_4 h (fun x1 h => ?_)
  refine r_iconst C (v := 1) 8 rfl dX6_removeRule_7 (by decide) ?_
  refine r_isub C 9 rfl dX6_removeRule_8 ?_
  refine r_callS C mm_X6_77 st_yX6_in 12 0 0 rfl rfl rfl dX6_removeRule_9 rfl rfl (As := [.int v1, .int 0, .int (x1 - 1)]) rfl rfl (Nat.le_of_ble_eq_true rfl) ⟨Nat.le_of_ble_eq_true rfl, Nat.le_of_ble_eq_true rfl⟩ ⟨(Nat.le_of_ble_eq_true rfl), (Nat.le_of_ble_eq_true rfl)⟩ (fun o t h => k_X6_in l hst g _ _ _ _ o t h) h (fun w3 t2 h => ?_) (fun E t h => r_out C (fun x hx => (hE x hx).elim) (Nat.le_refl _) (Nat.le_refl _) h)
  replace h := jvI_some h
  obtain ⟨x4, rfl, h⟩ := h
  obtain ⟨j20, hj20E, h⟩ := jj_some h
  have hj20 : ∀ (x5 : Int32) (t6 : Hp), j20 x5 t6 = some (o, τ) → jW p l e ({ frames := 8, cells := 0, slots := 0, locals := 186 } : Room) s m args below meth c g (jQ below g o τ args s 0 0) 0 0 20 [(0, .ref a0), (1, .int v1)] [.int x5, .ref a0] t6 := by
    subst hj20E
    intro x5 t6 h
    refine r_callV C (ci := 6) mm_X6_84 im_yX6_goesOn se_yX6_goesOn rfl 23 0 0 rfl rfl rfl dX6_removeRule_20 rfl rfl (As := [.int x5]) rfl rfl (Nat.le_of_ble_eq_true rfl) ⟨Nat.le_of_ble_eq_true rfl, Nat.le_of_ble_eq_true rfl⟩ ⟨(Nat.le_of_ble_eq_true rfl), (Nat.le_of_ble_eq_true rfl)⟩ (fun o t h => k_X6_goesOn l hst g _ _ _ o t h) h (fun w8 t7 h => ?_) (fun E t h => r_out C (fun x hx => (hE x hx).elim) (Nat.le_refl _) (Nat.le_refl _) h)
    replace h := jvI_some h
    obtain ⟨x9, rfl, h⟩ := h
    refine r_if_ne C 28 26 rfl dX6_removeRule_23 (by decide) h (fun h => ?_) (fun h => ?_)
    · refine r_aload_n C (x := some a0) 29 rfl 0 dX6_removeRule_28 rfl ?_
      refine r_callV C (ci := 6) mm_X6_113 im_yX6_keepsCells se_yX6_keepsCells rfl 32 0 0 rfl rfl rfl dX6_removeRule_29 rfl rfl (As := []) rfl rfl (Nat.le_of_ble_eq_true rfl) ⟨Nat.le_of_ble_eq_true rfl, Nat.le_of_ble_eq_true rfl⟩ ⟨(Nat.le_of_ble_eq_true rfl), (Nat.le_of_ble_eq_true rfl)⟩ (fun o t h => k_X6_keepsCells l hst g _ _ o t h) h (fun w11 t10 h => ?_) (fun E t h => r_out C (fun x hx => (hE x hx).elim) (Nat.le_refl _) (Nat.le_refl _) h)
      replace h := jvV_some h
      obtain ⟨rfl, h⟩ := h
      refine r_iload_n C 33 rfl 1 dX6_removeRule_32 rfl ?_
      refine r_iconst C (v := 1) 34 rfl dX6_removeRule_33 (by decide) ?_
      refine r_iadd C 35 rfl dX6_removeRule_34 ?_
      refine r_istore_n C 36 rfl [(2, .int (v1 + 1)), (0, .ref a0), (1, .int v1)] dX6_removeRule_35 (by decide) rfl ?_
      refine r_lv [1, 0] rfl ?_
      refine w_X6_removeRule_L36 l hst  C hE  jN a0 (v1 + 1) t10 h
    · refine r_iconst C (v := 0) 27 rfl dX6_removeRule_26 (by decide) ?_
      exact r_iret C dX6_removeRule_27 (Nat.le_refl _) (Nat.le_refl _) h
  clear hj20E
  refine r_if_eq C 19 15 rfl dX6_removeRule_12 (by decide) h (fun h => ?_) (fun h => ?_)
  · refine r_iconst C (v := 1) 20 rfl dX6_removeRule_19 (by decide) ?_
    exact hj20 1 t2 h
  · refine r_iconst C (v := 0) 16 rfl dX6_removeRule_15 (by decide) ?_
    refine r_goto C 20 dX6_removeRule_16 (by decide) ?_
    exact hj20 0 t2 h

def J_X6_ruleAt  (a0 : Nat) (v1 : Int32) (v2 : Int32) (σ : Hp) : jR := jgI σ a0 6 7 (fun x1 => jcs (J_X6_in v1 0 (x1 - 1) σ) (fun w3 t2 => jvI w3 (fun x4 => jj (fun (x5 : Int32) (t6 : Hp) => jj (fun (x7 : Int32) (t8 : Hp) => jcv t8 a0 6 (J_X6_goesOn a0 x7 t8) (fun w10 t9 => jvI w10 (fun x11 => (if x11 = 0 then jrt .char 0 t9 else jcv t9 a0 6 (J_X6_letterOf a0 v1 v2 t9) (fun w13 t12 => jvI w13 (fun x14 => jrt .char ((((97 + x14) - 1).toUInt32 % 65536).toInt32) t12)) (fun E t => some (.inr E, t))))) (fun E t => some (.inr E, t))) (fun j57 => (if x4 = 0 then j57 1 t6 else (if x5 = 0 then j57 2 t6 else j57 0 t6)))) (fun j36 => jj (fun (t15 : Hp) => j36 0 t15) (fun j35 => (if x4 = 0 then j35 t2 else jcv t2 a0 6 (J_X6_lengthOf a0 v1 t2) (fun w17 t16 => jvI w17 (fun x18 => jcs (J_X6_in v2 0 (x18 - 1) t16) (fun w20 t19 => jvI w20 (fun x21 => (if x21 = 0 then j35 t19 else j36 1 t19))) (fun E t => some (.inr E, t)))) (fun E t => some (.inr E, t))))))) (fun E t => some (.inr E, t)))
set_option maxHeartbeats 4000000 in
set_option maxRecDepth 100000 in
theorem k_X6_ruleAt (l : Launch) (hst : l.stackTraces = false) (g : jG)   (a0 : Nat) (v1 : Int32) (v2 : Int32) (σ : Hp) (o : jO) (τ : Hp) (h : J_X6_ruleAt a0 v1 v2 σ = some (o, τ)) : jMet l g yX6_ruleAt (Cond.code yX6_ruleAt cX6_ruleAt 5 (some FieldType.char) :: gT) ({ frames := 4, cells := 0, slots := 0, locals := 77 } : Room) 0 0 [.ref a0, .int v1, .int v2] σ o τ := by
  refine j_start l hst (own := RX6) (by decide) rfl (Nat.le_of_ble_eq_true rfl) ?_
  intro p e s m args below meth c C hE hin
  unfold J_X6_ruleAt at h
  show jW p l e ({ frames := 4, cells := 0, slots := 0, locals := 77 } : Room) s m args below meth c g (jQ below g o τ args s 0 0) 0 0 0 [(0, .ref a0), (1, .int v1), (2, .int v2)] [] σ
  refine r_iload_n C 1 rfl 1 dX6_ruleAt_0 rfl ?_
  refine r_iconst C (v := 0) 2 rfl dX6_ruleAt_1 (by decide) ?_
  refine r_aload_n C (x := some a0) 3 rfl 0 dX6_ruleAt_2 rfl ?_
  refine r_getI C 6 rfl ff_X6_100 dX6_ruleAt_3 h (fun x1 h => ?_)
  refine r_iconst C (v := 1) 7 rfl dX6_ruleAt_6 (by decide) ?_
  refine r_isub C 8 rfl dX6_ruleAt_7 ?_
  refine r_callS C mm_X6_77 st_yX6_in 11 0 0 rfl rfl rfl dX6_ruleAt_8 rfl rfl (As := [.int v1, .int 0, .int (x1 - 1)]) rfl rfl (Nat.le_of_ble_eq_true rfl) ⟨Nat.le_of_ble_eq_true rfl, Nat.le_of_ble_eq_true rfl⟩ ⟨(Nat.le_of_ble_eq_true rfl), (Nat.le_of_ble_eq_true rfl)⟩ (fun o t h => k_X6_in l hst g _ _ _ _ o t h) h (fun w3 t2 h => ?_) (fun E t h => r_out C (fun x hx => (hE x hx).elim) (Nat.le_refl _) (Nat.le_refl _) h)
  replace h := jvI_some h
  obtain ⟨x4, rfl, h⟩ := h
  refine r_istore_n C 12 rfl [(3, .int x4), (0, .ref a0), (1, .int v1), (2, .int v2)] dX6_ruleAt_11 (by decide) rfl ?_
  refine r_iload_n C 13 rfl 0 dX6_ruleAt_12 rfl ?_
  obtain ⟨j36, hj36E, h⟩ := jj_some h
  have hj36 : ∀ (x5 : Int32) (t6 : Hp), j36 x5 t6 = some (o, τ) → jW p l e ({ frames := 4, cells := 0, slots := 0, locals := 77 } : Room) s m args below meth c g (jQ below g o τ args s 0 0) 0 0 36 [(0, .ref a0), (1, .int v1), (2, .int v2), (3, .int x4)] [.int x5] t6 := by
    subst hj36E
    intro x5 t6 h
    refine r_istore C 38 rfl [(4, .int x5), (0, .ref a0), (1, .int v1), (2, .int v2), (3, .int x4)] dX6_ruleAt_36 (by decide) rfl ?_
    refine r_aload_n C (x := some a0) 39 rfl 1 dX6_ruleAt_38 rfl ?_
    refine r_iload_n C 40 rfl 4 dX6_ruleAt_39 rfl ?_
    obtain ⟨j57, hj57E, h⟩ := jj_some h
    have hj57 : ∀ (x7 : Int32) (t8 : Hp), j57 x7 t8 = some (o, τ) → jW p l e ({ frames := 4, cells := 0, slots := 0, locals := 77 } : Room) s m args below meth c g (jQ below g o τ args s 0 0) 0 0 57 [(0, .ref a0), (1, .int v1), (2, .int v2)] [.int x7, .ref a0] t8 := by
      subst hj57E
      intro x7 t8 h
      refine r_callV C (ci := 6) mm_X6_84 im_yX6_goesOn se_yX6_goesOn rfl 60 0 0 rfl rfl rfl dX6_ruleAt_57 rfl rfl (As := [.int x7]) rfl rfl (Nat.le_of_ble_eq_true rfl) ⟨Nat.le_of_ble_eq_true rfl, Nat.le_of_ble_eq_true rfl⟩ ⟨(Nat.le_of_ble_eq_true rfl), (Nat.le_of_ble_eq_true rfl)⟩ (fun o t h => k_X6_goesOn l hst g _ _ _ o t h) h (fun w10 t9 h => ?_) (fun E t h => r_out C (fun x hx => (hE x hx).elim) (Nat.le_refl _) (Nat.le_refl _) h)
      replace h := jvI_some h
      obtain ⟨x11, rfl, h⟩ := h
      refine r_if_eq C 78 63 rfl dX6_ruleAt_60 (by decide) h (fun h => ?_) (fun h => ?_)
      · refine r_iconst C (v := 0) 79 rfl dX6_ruleAt_78 (by decide) ?_
        exact r_zret C (fun _ => rfl) dX6_ruleAt_79 (Nat.le_refl _) (Nat.le_refl _) h
      · refine r_bipush C (v := 97) 65 rfl dX6_ruleAt_63 (by decide) ?_
        refine r_aload_n C (x := some a0) 66 rfl 0 dX6_ruleAt_65 rfl ?_
        refine r_iload_n C 67 rfl 1 dX6_ruleAt_66 rfl ?_
        refine r_iload_n C 68 rfl 2 dX6_ruleAt_67 rfl ?_
        refine r_callV C (ci := 6) mm_X6_96 im_yX6_letterOf se_yX6_letterOf rfl 71 0 0 rfl rfl rfl dX6_ruleAt_68 rfl rfl (As := [.int v1, .int v2]) rfl rfl (Nat.le_of_ble_eq_true rfl) ⟨Nat.le_of_ble_eq_true rfl, Nat.le_of_ble_eq_true rfl⟩ ⟨(Nat.le_of_ble_eq_true rfl), (Nat.le_of_ble_eq_true rfl)⟩ (fun o t h => k_X6_letterOf l hst g _ _ _ _ o t h) h (fun w13 t12 h => ?_) (fun E t h => r_out C (fun x hx => (hE x hx).elim) (Nat.le_refl _) (Nat.le_refl _) h)
        replace h := jvI_some h
        obtain ⟨x14, rfl, h⟩ := h
        refine r_iadd C 72 rfl dX6_ruleAt_71 ?_
        refine r_iconst C (v := 1) 73 rfl dX6_ruleAt_72 (by decide) ?_
        refine r_isub C 74 rfl dX6_ruleAt_73 ?_
        refine r_i2c C 75 rfl dX6_ruleAt_74 ?_
        refine r_goto C 79 dX6_ruleAt_75 (by decide) ?_
        exact r_zret C (fun _ => rfl) dX6_ruleAt_79 (Nat.le_refl _) (Nat.le_refl _) h
    clear hj57E
    refine r_if_ne C 47 43 rfl dX6_ruleAt_40 (by decide) h (fun h => ?_) (fun h => ?_)
    · refine r_iload C 49 rfl 0 dX6_ruleAt_47 rfl ?_
      refine r_if_ne C 56 52 rfl dX6_ruleAt_49 (by decide) h (fun h => ?_) (fun h => ?_)
      · refine r_iconst C (v := 0) 57 rfl dX6_ruleAt_56 (by decide) ?_
        refine r_lv [1, 2, 3] rfl ?_
        exact hj57 0 t6 h
      · refine r_iconst C (v := 2) 53 rfl dX6_ruleAt_52 (by decide) ?_
        refine r_goto C 57 dX6_ruleAt_53 (by decide) ?_
        refine r_lv [1, 2, 3] rfl ?_
        exact hj57 2 t6 h
    · refine r_iconst C (v := 1) 44 rfl dX6_ruleAt_43 (by decide) ?_
      refine r_goto C 57 dX6_ruleAt_44 (by decide) ?_
      refine r_lv [1, 2, 3] rfl ?_
      exact hj57 1 t6 h
  clear hj36E
  obtain ⟨j35, hj35E, h⟩ := jj_some h
  have hj35 : ∀ (t15 : Hp), j35 t15 = some (o, τ) → jW p l e ({ frames := 4, cells := 0, slots := 0, locals := 77 } : Room) s m args below meth c g (jQ below g o τ args s 0 0) 0 0 35 [(0, .ref a0), (1, .int v1), (2, .int v2), (3, .int x4)] [] t15 := by
    subst hj35E
    intro t15 h
    refine r_iconst C (v := 0) 36 rfl dX6_ruleAt_35 (by decide) ?_
    exact hj36 0 t15 h
  clear hj35E
  refine r_if_eq C 35 16 rfl dX6_ruleAt_13 (by decide) h (fun h => ?_) (fun h => ?_)
  · refine r_lv [1, 2, 3, 0] rfl ?_
    exact hj35 t2 h
  · refine r_iload_n C 17 rfl 3 dX6_ruleAt_16 rfl ?_
    refine r_iconst C (v := 0) 18 rfl dX6_ruleAt_17 (by decide) ?_
    refine r_aload_n C (x := some a0) 19 rfl 1 dX6_ruleAt_18 rfl ?_
    refine r_iload_n C 20 rfl 2 dX6_ruleAt_19 rfl ?_
    refine r_callV C (ci := 6) mm_X6_127 im_yX6_lengthOf se_yX6_lengthOf rfl 23 0 0 rfl rfl rfl dX6_ruleAt_20 rfl rfl (As := [.int v1]) rfl rfl (Nat.le_of_ble_eq_true rfl) ⟨Nat.le_of_ble_eq_true rfl, Nat.le_of_ble_eq_true rfl⟩ ⟨(Nat.le_of_ble_eq_true rfl), (Nat.le_of_ble_eq_true rfl)⟩ (fun o t h => k_X6_lengthOf l hst g _ _ _ o t h) h (fun w17 t16 h => ?_) (fun E t h => r_out C (fun x hx => (hE x hx).elim) (Nat.le_refl _) (Nat.le_refl _) h)
    replace h := jvI_some h
    obtain ⟨x18, rfl, h⟩ := h
    refine r_iconst C (v := 1) 24 rfl dX6_ruleAt_23 (by decide) ?_
    refine r_isub C 25 rfl dX6_ruleAt_24 ?_
    refine r_callS C mm_X6_77 st_yX6_in 28 0 0 rfl rfl rfl dX6_ruleAt_25 rfl rfl (As := [.int v2, .int 0, .int (x18 - 1)]) rfl rfl (Nat.le_of_ble_eq_true rfl) ⟨Nat.le_of_ble_eq_true rfl, Nat.le_of_ble_eq_true rfl⟩ ⟨(Nat.le_of_ble_eq_true rfl), (Nat.le_of_ble_eq_true rfl)⟩ (fun o t h => k_X6_in l hst g _ _ _ _ o t h) h (fun w20 t19 h => ?_) (fun E t h => r_out C (fun x hx => (hE x hx).elim) (Nat.le_refl _) (Nat.le_refl _) h)
    replace h := jvI_some h
    obtain ⟨x21, rfl, h⟩ := h
    refine r_if_eq C 35 31 rfl dX6_ruleAt_28 (by decide) h (fun h => ?_) (fun h => ?_)
    · refine r_lv [1, 2, 3, 0] rfl ?_
      exact hj35 t19 h
    · refine r_iconst C (v := 1) 32 rfl dX6_ruleAt_31 (by decide) ?_
      refine r_goto C 36 dX6_ruleAt_32 (by decide) ?_
      refine r_lv [1, 2, 3, 0] rfl ?_
      exact hj36 1 t19 h

def J_X6_exceptionInBuffer_L34b  (k81 : Nat → Int32 → Int32 → Int32 → Hp → jR) (rc : Nat → Int32 → Int32 → Int32 → Int32 → Hp → jR) (a0 : Nat) (v1 : Int32) (v2 : Int32) (v3 : Int32) (v4 : Int32) (t0 : Hp) : jR := jgI t0 a0 6 2 (fun x8 => (if x8 ≤ v4 then k81 a0 v1 v2 v3 t0 else (if v3 = 0 then k81 a0 v1 v2 v3 t0 else jgR t0 a0 6 8 (fun r9 => jdr r9 (fun b10 => jaI t0 b10 ((80 * v2) + v4) (fun x11 => jgR t0 a0 6 1 (fun r12 => jdr r12 (fun b13 => jaI t0 b13 v4 (fun x14 => jj (fun (x15 : Int32) (t16 : Hp) => rc a0 v1 v2 x15 (v4 + 1) t16) (fun j74 => (if x11 = x14 then j74 1 t0 else j74 0 t0)))))))))))
def J_X6_exceptionInBuffer_L34  (k81 : Nat → Int32 → Int32 → Int32 → Hp → jR) : Nat → Nat → Int32 → Int32 → Int32 → Int32 → Hp → jR
  | 0 => fun _ _ _ _ _ _ => none
  | n + 1 => J_X6_exceptionInBuffer_L34b  k81 (J_X6_exceptionInBuffer_L34  k81 n)
def J_X6_exceptionInBuffer_L4b   (rc : Nat → Int32 → Int32 → Hp → jR) (a0 : Nat) (v1 : Int32) (v2 : Int32) (t0 : Hp) : jR := jgI t0 a0 6 10 (fun x1 => (if x1 ≤ v2 then some (.inl (some (.int v1)), t0) else jgR t0 a0 6 9 (fun r2 => jdr r2 (fun b3 => jaI t0 b3 v2 (fun x4 => jgI t0 a0 6 2 (fun x5 => jj (fun (x6 : Int32) (t7 : Hp) => J_X6_exceptionInBuffer_L34  (fun (x17 : Nat) (x18 : Int32) (x19 : Int32) (x20 : Int32) (t21 : Hp) => jj (fun (x22 : Int32) (t23 : Hp) => rc x17 x22 (x19 + 1) t23) (fun j90 => (if x20 = 0 then j90 x18 t21 else j90 x19 t21))) jN a0 v1 v2 x6 0 t7) (fun j30 => (if x4 = x5 then j30 1 t0 else j30 0 t0))))))))
def J_X6_exceptionInBuffer_L4   : Nat → Nat → Int32 → Int32 → Hp → jR
  | 0 => fun _ _ _ _ => none
  | n + 1 => J_X6_exceptionInBuffer_L4b   (J_X6_exceptionInBuffer_L4   n)
def J_X6_exceptionInBuffer  (a0 : Nat) (σ : Hp) : jR := J_X6_exceptionInBuffer_L4   jN a0 ((-1)) 0 σ
set_option maxHeartbeats 4000000 in
set_option maxRecDepth 100000 in
theorem w_X6_exceptionInBuffer_L34 (l : Launch) (hst : l.stackTraces = false) {p : Program} {e : Env} {s : State} {m : MethodId} {args : Array Value} {below : List Frame} {meth : Method} {c : Code} {g : jG} {o : jO} {τ : Hp}  (C : jC p l s m args meth c g RX6 cX6_exceptionInBuffer 5 (some FieldType.int)) (hE : ∀ x ∈ c.exceptionTable.toList, False) (k81 : Nat → Int32 → Int32 → Int32 → Hp → jR) (hk81 : ∀ (a0x : Nat) (v1x : Int32) (v2x : Int32) (v3x : Int32) (tx : Hp), k81 a0x v1x v2x v3x tx = some (o, τ) → jW p l e ({ frames := 1, cells := 0, slots := 0, locals := 12 } : Room) s m args below meth c g (jQ below g o τ args s 0 0) 0 0 81 [(0, .ref a0x), (1, .int v1x), (2, .int v2x), (3, .int v3x)] [] tx) : ∀ (n : Nat) (a0 : Nat) (v1 : Int32) (v2 : Int32) (v3 : Int32) (v4 : Int32) (t0 : Hp), J_X6_exceptionInBuffer_L34  k81 n a0 v1 v2 v3 v4 t0 = some (o, τ) → jW p l e ({ frames := 1, cells := 0, slots := 0, locals := 12 } : Room) s m args below meth c g (jQ below g o τ args s 0 0) 0 0 34 [(0, .ref a0), (1, .int v1), (2, .int v2), (3, .int v3), (4, .int v4)] [] t0 := by
  intro n
  induction n with
  | zero => intro a0 v1 v2 v3 v4 t0 h; cases h
  | succ n ih =>
    intro a0 v1 v2 v3 v4 t0 h
    have h : J_X6_exceptionInBuffer_L34b  k81 (J_X6_exceptionInBuffer_L34  k81 n) a0 v1 v2 v3 v4 t0 = some (o, τ) := h
    unfold J_X6_exceptionInBuffer_L34b at h
    refine r_iload C 36 rfl 4 dX6_exceptionInBuffer_34 rfl ?_
    refine r_aload_n C (x := some a0) 37 rfl 0 dX6_exceptionInBuffer_36 rfl ?_
    refine r_getI C 40 rfl ff_X6_81 dX6_exceptionInBuffer_37 h (fun x8 h => ?_)
    refine r_icmp_ge C 81 43 rfl dX6_exceptionInBuffer_40 (by decide) h (fun h => ?_) (fun h => ?_)
    · refine r_lv [0, 1, 2, 3] rfl ?_
      exact hk81 a0 v1 v2 v3 t0 h
    · refine r_iload_n C 44 rfl 3 dX6_exceptionInBuffer_43 rfl ?_
      refine r_if_eq C 81 47 rfl dX6_exceptionInBuffer_44 (by decide) h (fun h => ?_) (fun h => ?_)
      · refine r_lv [0, 1, 2, 3] rfl ?_
        exact hk81 a0 v1 v2 v3 t0 h
      · refine r_aload_n C (x := some a0) 48 rfl 0 dX6_exceptionInBuffer_47 rfl ?_
        refine r_getR C 51 rfl ff_X6_25 dX6_exceptionInBuffer_48 h (fun r9 h => ?_)
        refine r_bipush C (v := 80) 53 rfl dX6_exceptionInBuffer_51 (by decide) ?_
        refine r_iload_n C 54 rfl 2 dX6_exceptionInBuffer_53 rfl ?_
        refine r_imul C 55 rfl dX6_exceptionInBuffer_54 ?_
        refine r_iload C 57 rfl 4 dX6_exceptionInBuffer_55 rfl ?_
        refine r_iadd C 58 rfl dX6_exceptionInBuffer_57 ?_
        replace h := jdr_some h
        obtain ⟨b10, hr, h⟩ := h
        rw [hr]
        refine r_iald C 59 rfl dX6_exceptionInBuffer_58 h (fun x11 h => ?_)
        refine r_aload_n C (x := some a0) 60 rfl 0 dX6_exceptionInBuffer_59 rfl ?_
        refine r_getR C 63 rfl ff_X6_7 dX6_exceptionInBuffer_60 h (fun r12 h => ?_)
        refine r_iload C 65 rfl 4 dX6_exceptionInBuffer_63 rfl ?_
        replace h := jdr_some h
        obtain ⟨b13, hr, h⟩ := h
        rw [hr]
        refine r_iald C 66 rfl dX6_exceptionInBuffer_65 h (fun x14 h => ?_)
        obtain ⟨j74, hj74E, h⟩ := jj_some h
        have hj74 : ∀ (x15 : Int32) (t16 : Hp), j74 x15 t16 = some (o, τ) → jW p l e ({ frames := 1, cells := 0, slots := 0, locals := 12 } : Room) s m args below meth c g (jQ below g o τ args s 0 0) 0 0 74 [(0, .ref a0), (1, .int v1), (2, .int v2), (4, .int v4)] [.int x15] t16 := by
          subst hj74E
          intro x15 t16 h
          refine r_istore_n C 75 rfl [(3, .int x15), (0, .ref a0), (1, .int v1), (2, .int v2), (4, .int v4)] dX6_exceptionInBuffer_74 (by decide) rfl ?_
          refine r_iinc C (v := v4 + 1) 78 rfl 4 [(4, .int (v4 + 1)), (3, .int x15), (0, .ref a0), (1, .int v1), (2, .int v2)] dX6_exceptionInBuffer_75 rfl rfl (by decide) rfl ?_
          refine r_goto C 34 dX6_exceptionInBuffer_78 (by decide) ?_
          refine r_lv [2, 3, 4, 1, 0] rfl ?_
          exact ih a0 v1 v2 x15 (v4 + 1) t16 h
        clear hj74E
        refine r_icmp_ne C 73 69 rfl dX6_exceptionInBuffer_66 (by decide) h (fun h => ?_) (fun h => ?_)
        · refine r_iconst C (v := 0) 74 rfl dX6_exceptionInBuffer_73 (by decide) ?_
          refine r_lv [0, 1, 2, 4] rfl ?_
          exact hj74 0 t0 h
        · refine r_iconst C (v := 1) 70 rfl dX6_exceptionInBuffer_69 (by decide) ?_
          refine r_goto C 74 dX6_exceptionInBuffer_70 (by decide) ?_
          refine r_lv [0, 1, 2, 4] rfl ?_
          exact hj74 1 t0 h
set_option maxHeartbeats 4000000 in
set_option maxRecDepth 100000 in
theorem w_X6_exceptionInBuffer_L4 (l : Launch) (hst : l.stackTraces = false) {p : Program} {e : Env} {s : State} {m : MethodId} {args : Array Value} {below : List Frame} {meth : Method} {c : Code} {g : jG} {o : jO} {τ : Hp}  (C : jC p l s m args meth c g RX6 cX6_exceptionInBuffer 5 (some FieldType.int)) (hE : ∀ x ∈ c.exceptionTable.toList, False)  : ∀ (n : Nat) (a0 : Nat) (v1 : Int32) (v2 : Int32) (t0 : Hp), J_X6_exceptionInBuffer_L4   n a0 v1 v2 t0 = some (o, τ) → jW p l e ({ frames := 1, cells := 0, slots := 0, locals := 12 } : Room) s m args below meth c g (jQ below g o τ args s 0 0) 0 0 4 [(0, .ref a0), (1, .int v1), (2, .int v2)] [] t0 := by
  intro n
  induction n with
  | zero => intro a0 v1 v2 t0 h; cases h
  | succ n ih =>
    intro a0 v1 v2 t0 h
    have h : J_X6_exceptionInBuffer_L4b   (J_X6_exceptionInBuffer_L4   n) a0 v1 v2 t0 = some (o, τ) := h
    unfold J_X6_exceptionInBuffer_L4b at h
    refine r_iload_n C 5 rfl 2 dX6_exceptionInBuffer_4 rfl ?_
    refine r_aload_n C (x := some a0) 6 rfl 0 dX6_exceptionInBuffer_5 rfl ?_
    refine r_getI C 9 rfl ff_X6_130 dX6_exceptionInBuffer_6 h (fun x1 h => ?_)
    refine r_icmp_ge C 97 12 rfl dX6_exceptionInBuffer_9 (by decide) h (fun h => ?_) (fun h => ?_)
    · refine r_iload_n C 98 rfl 1 dX6_exceptionInBuffer_97 rfl ?_
      exact r_iret C dX6_exceptionInBuffer_98 (Nat.le_refl _) (Nat.le_refl _) h
    · refine r_aload_n C (x := some a0) 13 rfl 0 dX6_exceptionInBuffer_12 rfl ?_
      refine r_getR C 16 rfl ff_X6_28 dX6_exceptionInBuffer_13 h (fun r2 h => ?_)
      refine r_iload_n C 17 rfl 2 dX6_exceptionInBuffer_16 rfl ?_
      replace h := jdr_some h
      obtain ⟨b3, hr, h⟩ := h
      rw [hr]
      refine r_iald C 18 rfl dX6_exceptionInBuffer_17 h (fun x4 h => ?_)
      refine r_aload_n C (x := some a0) 19 rfl 0 dX6_exceptionInBuffer_18 rfl ?_
      refine r_getI C 22 rfl ff_X6_81 dX6_exceptionInBuffer_19 h (fun x5 h => ?_)
      obtain ⟨j30, hj30E, h⟩ := jj_some h
      have hj30 : ∀ (x6 : Int32) (t7 : Hp), j30 x6 t7 = some (o, τ) → jW p l e ({ frames := 1, cells := 0, slots := 0, locals := 12 } : Room) s m args below meth c g (jQ below g o τ args s 0 0) 0 0 30 [(0, .ref a0), (1, .int v1), (2, .int v2)] [.int x6] t7 := by
        subst hj30E
        intro x6 t7 h
        refine r_istore_n C 31 rfl [(3, .int x6), (0, .ref a0), (1, .int v1), (2, .int v2)] dX6_exceptionInBuffer_30 (by decide) rfl ?_
        refine r_iconst C (v := 0) 32 rfl dX6_exceptionInBuffer_31 (by decide) ?_
        refine r_istore C 34 rfl [(4, .int 0), (3, .int x6), (0, .ref a0), (1, .int v1), (2, .int v2)] dX6_exceptionInBuffer_32 (by decide) rfl ?_
        refine r_lv [2, 3, 4, 1, 0] rfl ?_
        refine w_X6_exceptionInBuffer_L34 l hst  C hE _ (fun x17 x18 x19 x20 t21 h => ?_) jN a0 v1 v2 x6 0 t7 h
        refine r_iload_n C 82 rfl 3 dX6_exceptionInBuffer_81 rfl ?_
        obtain ⟨j90, hj90E, h⟩ := jj_some h
        have hj90 : ∀ (x22 : Int32) (t23 : Hp), j90 x22 t23 = some (o, τ) → jW p l e ({ frames := 1, cells := 0, slots := 0, locals := 12 } : Room) s m args below meth c g (jQ below g o τ args s 0 0) 0 0 90 [(0, .ref x17), (2, .int x19)] [.int x22] t23 := by
          subst hj90E
          intro x22 t23 h
          refine r_istore_n C 91 rfl [(1, .int x22), (0, .ref x17), (2, .int x19)] dX6_exceptionInBuffer_90 (by decide) rfl ?_
          refine r_iinc C (v := x19 + 1) 94 rfl 2 [(2, .int (x19 + 1)), (1, .int x22), (0, .ref x17)] dX6_exceptionInBuffer_91 rfl rfl (by decide) rfl ?_
          refine r_goto C 4 dX6_exceptionInBuffer_94 (by decide) ?_
          refine r_lv [2, 1, 0] rfl ?_
          exact ih x17 x22 (x19 + 1) t23 h
        clear hj90E
        refine r_if_eq C 89 85 rfl dX6_exceptionInBuffer_82 (by decide) h (fun h => ?_) (fun h => ?_)
        · refine r_iload_n C 90 rfl 1 dX6_exceptionInBuffer_89 rfl ?_
          refine r_lv [0, 2] rfl ?_
          exact hj90 x18 t21 h
        · refine r_iload_n C 86 rfl 2 dX6_exceptionInBuffer_85 rfl ?_
          refine r_goto C 90 dX6_exceptionInBuffer_86 (by decide) ?_
          refine r_lv [0, 2] rfl ?_
          exact hj90 x19 t21 h
      clear hj30E
      refine r_icmp_ne C 29 25 rfl dX6_exceptionInBuffer_22 (by decide) h (fun h => ?_) (fun h => ?_)
      · refine r_iconst C (v := 0) 30 rfl dX6_exceptionInBuffer_29 (by decide) ?_
        exact hj30 0 t0 h
      · refine r_iconst C (v := 1) 26 rfl dX6_exceptionInBuffer_25 (by decide) ?_
        refine r_goto C 30 dX6_exceptionInBuffer_26 (by decide) ?_
        exact hj30 1 t0 h
set_option maxHeartbeats 4000000 in
set_option maxRecDepth 100000 in
theorem k_X6_exceptionInBuffer (l : Launch) (hst : l.stackTraces = false) (g : jG)   (a0 : Nat) (σ : Hp) (o : jO) (τ : Hp) (h : J_X6_exceptionInBuffer a0 σ = some (o, τ)) : jMet l g yX6_exceptionInBuffer (Cond.code yX6_exceptionInBuffer cX6_exceptionInBuffer 5 (some FieldType.int) :: gT) ({ frames := 1, cells := 0, slots := 0, locals := 12 } : Room) 0 0 [.ref a0] σ o τ := by
  refine j_start l hst (own := RX6) (by decide) rfl (Nat.le_of_ble_eq_true rfl) ?_
  intro p e s m args below meth c C hE hin
  unfold J_X6_exceptionInBuffer at h
  show jW p l e ({ frames := 1, cells := 0, slots := 0, locals := 12 } : Room) s m args below meth c g (jQ below g o τ args s 0 0) 0 0 0 [(0, .ref a0)] [] σ
  refine r_iconst C (v := (-1)) 1 rfl dX6_exceptionInBuffer_0 (by decide) ?_
  refine r_istore_n C 2 rfl [(1, .int ((-1))), (0, .ref a0)] dX6_exceptionInBuffer_1 (by decide) rfl ?_
  refine r_iconst C (v := 0) 3 rfl dX6_exceptionInBuffer_2 (by decide) ?_
  refine r_istore_n C 4 rfl [(2, .int 0), (1, .int ((-1))), (0, .ref a0)] dX6_exceptionInBuffer_3 (by decide) rfl ?_
  refine r_lv [2, 1, 0] rfl ?_
  refine w_X6_exceptionInBuffer_L4 l hst  C hE  jN a0 ((-1)) 0 σ h

def J_X6_turnException_L152b   (rc : Nat → Int32 → Int32 → Hp → jR) (a0 : Nat) (v2 : Int32) (v3 : Int32) (t0 : Hp) : jR := (if 80 ≤ v3 then jgR t0 a0 6 9 (fun r20 => jgR t0 a0 6 9 (fun r21 => jgI t0 a0 6 10 (fun x22 => jdr r21 (fun b23 => jaI t0 b23 x22 (fun x24 => jdr r20 (fun b25 => jsI t0 b25 v2 x24 (fun t26 => jpI t26 a0 6 2 0 (fun t27 => jcv t27 a0 6 (J_X6_textsChanged a0 t27) (fun w29 t28 => jvI w29 (fun x30 => (if v2 = ((-1)) then jrt .boolean 1 t28 else jrt .boolean 0 t28))) (fun E t => some (.inr E, t)))))))))) else jgR t0 a0 6 8 (fun r31 => jgR t0 a0 6 8 (fun r32 => jgI t0 a0 6 10 (fun x33 => jdr r32 (fun b34 => jaI t0 b34 ((80 * x33) + v3) (fun x35 => jdr r31 (fun b36 => jsI t0 b36 ((80 * v2) + v3) x35 (fun t37 => rc a0 v2 (v3 + 1) t37))))))))
def J_X6_turnException_L152   : Nat → Nat → Int32 → Int32 → Hp → jR
  | 0 => fun _ _ _ _ => none
  | n + 1 => J_X6_turnException_L152b   (J_X6_turnException_L152   n)
def J_X6_turnException_L80b   (rc : Nat → Int32 → Int32 → Hp → jR) (a0 : Nat) (v2 : Int32) (v3 : Int32) (t0 : Hp) : jR := jgI t0 a0 6 2 (fun x38 => (if x38 ≤ v3 then jgR t0 a0 6 9 (fun r39 => jgI t0 a0 6 10 (fun x40 => jgI t0 a0 6 2 (fun x41 => jdr r39 (fun b42 => jsI t0 b42 x40 x41 (fun t43 => jgI t43 a0 6 10 (fun x44 => jpI t43 a0 6 10 (x44 + 1) (fun t45 => jpI t45 a0 6 2 0 (fun t46 => jcv t46 a0 6 (J_X6_textsChanged a0 t46) (fun w48 t47 => jvI w48 (fun x49 => (if v2 = ((-1)) then jrt .boolean 1 t47 else jrt .boolean 0 t47))) (fun E t => some (.inr E, t)))))))))) else jgR t0 a0 6 8 (fun r50 => jgI t0 a0 6 10 (fun x51 => jgR t0 a0 6 1 (fun r52 => jdr r52 (fun b53 => jaI t0 b53 v3 (fun x54 => jdr r50 (fun b55 => jsI t0 b55 ((80 * x51) + v3) x54 (fun t56 => rc a0 v2 (v3 + 1) t56)))))))))
def J_X6_turnException_L80   : Nat → Nat → Int32 → Int32 → Hp → jR
  | 0 => fun _ _ _ _ => none
  | n + 1 => J_X6_turnException_L80b   (J_X6_turnException_L80   n)
def J_X6_turnException  (a0 : Nat) (σ : Hp) : jR := jgI σ a0 6 2 (fun x1 => jj (fun (x2 : Int32) (t3 : Hp) => jj (fun (x4 : Int32) (t5 : Hp) => jj (fun (x6 : Int32) (t7 : Hp) => jcv t7 a0 6 (J_X6_goesOn a0 x6 t7) (fun w9 t8 => jvI w9 (fun x10 => (if x10 = 0 then jrt .boolean 0 t8 else jcv t8 a0 6 (J_X6_keepsCells a0 t8) (fun w12 t11 => jvV w12 (jj (fun (t13 : Hp) => jpI t13 a0 6 2 0 (fun t14 => jcv t14 a0 6 (J_X6_textsChanged a0 t14) (fun w16 t15 => jvI w16 (fun x17 => (if x4 = ((-1)) then jrt .boolean 1 t15 else jrt .boolean 0 t15))) (fun E t => some (.inr E, t)))) (fun j204 => (if x4 = ((-1)) then J_X6_turnException_L80   jN a0 x4 0 t11 else jgI t11 a0 6 10 (fun x18 => jpI t11 a0 6 10 (x18 - 1) (fun t19 => J_X6_turnException_L152   jN a0 x4 0 t19)))))) (fun E t => some (.inr E, t))))) (fun E t => some (.inr E, t))) (fun j61 => (if x2 = 0 then j61 1 t5 else jj (fun (t57 : Hp) => j61 0 t57) (fun j60 => (if x4 = ((-1)) then jgI t5 a0 6 10 (fun x58 => (if x58 = 20 then j61 2 t5 else j60 t5)) else j60 t5))))) (fun j32 => (if x2 = 0 then j32 ((-1)) t3 else jcv t3 a0 6 (J_X6_exceptionInBuffer a0 t3) (fun w60 t59 => jvI w60 (fun x61 => j32 x61 t59)) (fun E t => some (.inr E, t))))) (fun j19 => jj (fun (t62 : Hp) => j19 0 t62) (fun j18 => (if x1 ≤ 0 then j18 σ else jcv σ a0 6 (J_X6_hasBlank a0 σ) (fun w64 t63 => jvI w64 (fun x65 => (if x65 = 0 then j19 1 t63 else j18 t63))) (fun E t => some (.inr E, t))))))
set_option maxHeartbeats 4000000 in
set_option maxRecDepth 100000 in
theorem w_X6_turnException_L152 (l : Launch) (hst : l.stackTraces = false) {p : Program} {e : Env} {s : State} {m : MethodId} {args : Array Value} {below : List Frame} {meth : Method} {c : Code} {g : jG} {o : jO} {τ : Hp}  (C : jC p l s m args meth c g RX6 cX6_turnException 4 (some FieldType.boolean)) (hE : ∀ x ∈ c.exceptionTable.toList, False)  : ∀ (n : Nat) (a0 : Nat) (v2 : Int32) (v3 : Int32) (t0 : Hp), J_X6_turnException_L152   n a0 v2 v3 t0 = some (o, τ) → jW p l e ({ frames := 8, cells := 0, slots := 0, locals := 186 } : Room) s m args below meth c g (jQ below g o τ args s 0 0) 0 0 152 [(0, .ref a0), (2, .int v2), (3, .int v3)] [] t0 := by
  intro n
  induction n with
  | zero => intro a0 v2 v3 t0 h; cases h
  | succ n ih =>
    intro a0 v2 v3 t0 h
    have h : J_X6_turnException_L152b   (J_X6_turnException_L152   n) a0 v2 v3 t0 = some (o, τ) := h
    unfold J_X6_turnException_L152b at h
    refine r_iload_n C 153 rfl 2 dX6_turnException_152 rfl ?_
    refine r_bipush C (v := 80) 155 rfl dX6_turnException_153 (by decide) ?_
    refine r_icmp_ge C 189 158 rfl dX6_turnException_155 (by decide) h (fun h => ?_) (fun h => ?_)
    · refine r_aload_n C (x := some a0) 190 rfl 0 dX6_turnException_189 rfl ?_
      refine r_getR C 193 rfl ff_X6_28 dX6_turnException_190 h (fun r20 h => ?_)
      refine r_iload_n C 194 rfl 1 dX6_turnException_193 rfl ?_
      refine r_aload_n C (x := some a0) 195 rfl 0 dX6_turnException_194 rfl ?_
      refine r_getR C 198 rfl ff_X6_28 dX6_turnException_195 h (fun r21 h => ?_)
      refine r_aload_n C (x := some a0) 199 rfl 0 dX6_turnException_198 rfl ?_
      refine r_getI C 202 rfl ff_X6_130 dX6_turnException_199 h (fun x22 h => ?_)
      replace h := jdr_some h
      obtain ⟨b23, hr, h⟩ := h
      rw [hr]
      refine r_iald C 203 rfl dX6_turnException_202 h (fun x24 h => ?_)
      replace h := jdr_some h
      obtain ⟨b25, hr, h⟩ := h
      rw [hr]
      refine r_iast C 204 rfl dX6_turnException_203 h (fun t26 h => ?_)
      refine r_aload_n C (x := some a0) 205 rfl 0 dX6_turnException_204 rfl ?_
      refine r_iconst C (v := 0) 206 rfl dX6_turnException_205 (by decide) ?_
      refine r_putI C 209 rfl fp_X6_81 dX6_turnException_206 h (fun t27 h => ?_)
      refine r_aload_n C (x := some a0) 210 rfl 0 dX6_turnException_209 rfl ?_
      refine r_callV C (ci := 6) mm_X6_124 im_yX6_textsChanged se_yX6_textsChanged rfl 213 0 0 rfl rfl rfl dX6_turnException_210 rfl rfl (As := []) rfl rfl (Nat.le_of_ble_eq_true rfl) ⟨Nat.le_of_ble_eq_true rfl, Nat.le_of_ble_eq_true rfl⟩ ⟨(Nat.le_of_ble_eq_true rfl), (Nat.le_of_ble_eq_true rfl)⟩ (fun o t h => k_X6_textsChanged l hst g _ _ o t h) h (fun w29 t28 h => ?_) (fun E t h => r_out C (fun x hx => (hE x hx).elim) (Nat.le_refl _) (Nat.le_refl _) h)
      replace h := jvI_some h
      obtain ⟨x30, rfl, h⟩ := h
      refine r_istore_n C 214 rfl [(3, .int x30), (0, .ref a0), (2, .int v2)] dX6_turnException_213 (by decide) rfl ?_
      refine r_iload_n C 215 rfl 2 dX6_turnException_214 rfl ?_
      refine r_iconst C (v := (-1)) 216 rfl dX6_turnException_215 (by decide) ?_
      refine r_icmp_ne C 223 219 rfl dX6_turnException_216 (by decide) h (fun h => ?_) (fun h => ?_)
      · refine r_iconst C (v := 0) 224 rfl dX6_turnException_223 (by decide) ?_
        exact r_zret C (fun _ => rfl) dX6_turnException_224 (Nat.le_refl _) (Nat.le_refl _) h
      · refine r_iconst C (v := 1) 220 rfl dX6_turnException_219 (by decide) ?_
        refine r_goto C 224 dX6_turnException_220 (by decide) ?_
        exact r_zret C (fun _ => rfl) dX6_turnException_224 (Nat.le_refl _) (Nat.le_refl _) h
    · refine r_aload_n C (x := some a0) 159 rfl 0 dX6_turnException_158 rfl ?_
      refine r_getR C 162 rfl ff_X6_25 dX6_turnException_159 h (fun r31 h => ?_)
      refine r_bipush C (v := 80) 164 rfl dX6_turnException_162 (by decide) ?_
      refine r_iload_n C 165 rfl 1 dX6_turnException_164 rfl ?_
      refine r_imul C 166 rfl dX6_turnException_165 ?_
      refine r_iload_n C 167 rfl 2 dX6_turnException_166 rfl ?_
      refine r_iadd C 168 rfl dX6_turnException_167 ?_
      refine r_aload_n C (x := some a0) 169 rfl 0 dX6_turnException_168 rfl ?_
      refine r_getR C 172 rfl ff_X6_25 dX6_turnException_169 h (fun r32 h => ?_)
      refine r_bipush C (v := 80) 174 rfl dX6_turnException_172 (by decide) ?_
      refine r_aload_n C (x := some a0) 175 rfl 0 dX6_turnException_174 rfl ?_
      refine r_getI C 178 rfl ff_X6_130 dX6_turnException_175 h (fun x33 h => ?_)
      refine r_imul C 179 rfl dX6_turnException_178 ?_
      refine r_iload_n C 180 rfl 2 dX6_turnException_179 rfl ?_
      refine r_iadd C 181 rfl dX6_turnException_180 ?_
      replace h := jdr_some h
      obtain ⟨b34, hr, h⟩ := h
      rw [hr]
      refine r_iald C 182 rfl dX6_turnException_181 h (fun x35 h => ?_)
      replace h := jdr_some h
      obtain ⟨b36, hr, h⟩ := h
      rw [hr]
      refine r_iast C 183 rfl dX6_turnException_182 h (fun t37 h => ?_)
      refine r_iinc C (v := v3 + 1) 186 rfl 2 [(3, .int (v3 + 1)), (0, .ref a0), (2, .int v2)] dX6_turnException_183 rfl rfl (by decide) rfl ?_
      refine r_goto C 152 dX6_turnException_186 (by decide) ?_
      refine r_lv [1, 2, 0] rfl ?_
      exact ih a0 v2 (v3 + 1) t37 h
set_option maxHeartbeats 4000000 in
set_option maxRecDepth 100000 in
theorem w_X6_turnException_L80 (l : Launch) (hst : l.stackTraces = false) {p : Program} {e : Env} {s : State} {m : MethodId} {args : Array Value} {below : List Frame} {meth : Method} {c : Code} {g : jG} {o : jO} {τ : Hp}  (C : jC p l s m args meth c g RX6 cX6_turnException 4 (some FieldType.boolean)) (hE : ∀ x ∈ c.exceptionTable.toList, False)  : ∀ (n : Nat) (a0 : Nat) (v2 : Int32) (v3 : Int32) (t0 : Hp), J_X6_turnException_L80   n a0 v2 v3 t0 = some (o, τ) → jW p l e ({ frames := 8, cells := 0, slots := 0, locals := 186 } : Room) s m args below meth c g (jQ below g o τ args s 0 0) 0 0 80 [(0, .ref a0), (2, .int v2), (3, .int v3)] [] t0 := by
  intro n
  induction n with
  | zero => intro a0 v2 v3 t0 h; cases h
  | succ n ih =>
    intro a0 v2 v3 t0 h
    have h : J_X6_turnException_L80b   (J_X6_turnException_L80   n) a0 v2 v3 t0 = some (o, τ) := h
    unfold J_X6_turnException_L80b at h
    refine r_iload_n C 81 rfl 2 dX6_turnException_80 rfl ?_
    refine r_aload_n C (x := some a0) 82 rfl 0 dX6_turnException_81 rfl ?_
    refine r_getI C 85 rfl ff_X6_81 dX6_turnException_82 h (fun x38 h => ?_)
    refine r_icmp_ge C 114 88 rfl dX6_turnException_85 (by decide) h (fun h => ?_) (fun h => ?_)
    · refine r_aload_n C (x := some a0) 115 rfl 0 dX6_turnException_114 rfl ?_
      refine r_getR C 118 rfl ff_X6_28 dX6_turnException_115 h (fun r39 h => ?_)
      refine r_aload_n C (x := some a0) 119 rfl 0 dX6_turnException_118 rfl ?_
      refine r_getI C 122 rfl ff_X6_130 dX6_turnException_119 h (fun x40 h => ?_)
      refine r_aload_n C (x := some a0) 123 rfl 0 dX6_turnException_122 rfl ?_
      refine r_getI C 126 rfl ff_X6_81 dX6_turnException_123 h (fun x41 h => ?_)
      replace h := jdr_some h
      obtain ⟨b42, hr, h⟩ := h
      rw [hr]
      refine r_iast C 127 rfl dX6_turnException_126 h (fun t43 h => ?_)
      refine r_aload_n C (x := some a0) 128 rfl 0 dX6_turnException_127 rfl ?_
      refine r_dup C 129 rfl dX6_turnException_128 rfl ?_
      refine r_getI C 132 rfl ff_X6_130 dX6_turnException_129 h (fun x44 h => ?_)
      refine r_iconst C (v := 1) 133 rfl dX6_turnException_132 (by decide) ?_
      refine r_iadd C 134 rfl dX6_turnException_133 ?_
      refine r_putI C 137 rfl fp_X6_130 dX6_turnException_134 h (fun t45 h => ?_)
      refine r_goto C 204 dX6_turnException_137 (by decide) ?_
      refine r_aload_n C (x := some a0) 205 rfl 0 dX6_turnException_204 rfl ?_
      refine r_iconst C (v := 0) 206 rfl dX6_turnException_205 (by decide) ?_
      refine r_putI C 209 rfl fp_X6_81 dX6_turnException_206 h (fun t46 h => ?_)
      refine r_aload_n C (x := some a0) 210 rfl 0 dX6_turnException_209 rfl ?_
      refine r_callV C (ci := 6) mm_X6_124 im_yX6_textsChanged se_yX6_textsChanged rfl 213 0 0 rfl rfl rfl dX6_turnException_210 rfl rfl (As := []) rfl rfl (Nat.le_of_ble_eq_true rfl) ⟨Nat.le_of_ble_eq_true rfl, Nat.le_of_ble_eq_true rfl⟩ ⟨(Nat.le_of_ble_eq_true rfl), (Nat.le_of_ble_eq_true rfl)⟩ (fun o t h => k_X6_textsChanged l hst g _ _ o t h) h (fun w48 t47 h => ?_) (fun E t h => r_out C (fun x hx => (hE x hx).elim) (Nat.le_refl _) (Nat.le_refl _) h)
      replace h := jvI_some h
      obtain ⟨x49, rfl, h⟩ := h
      refine r_istore_n C 214 rfl [(3, .int x49), (0, .ref a0), (2, .int v2)] dX6_turnException_213 (by decide) rfl ?_
      refine r_iload_n C 215 rfl 2 dX6_turnException_214 rfl ?_
      refine r_iconst C (v := (-1)) 216 rfl dX6_turnException_215 (by decide) ?_
      refine r_icmp_ne C 223 219 rfl dX6_turnException_216 (by decide) h (fun h => ?_) (fun h => ?_)
      · refine r_iconst C (v := 0) 224 rfl dX6_turnException_223 (by decide) ?_
        exact r_zret C (fun _ => rfl) dX6_turnException_224 (Nat.le_refl _) (Nat.le_refl _) h
      · refine r_iconst C (v := 1) 220 rfl dX6_turnException_219 (by decide) ?_
        refine r_goto C 224 dX6_turnException_220 (by decide) ?_
        exact r_zret C (fun _ => rfl) dX6_turnException_224 (Nat.le_refl _) (Nat.le_refl _) h
    · refine r_aload_n C (x := some a0) 89 rfl 0 dX6_turnException_88 rfl ?_
      refine r_getR C 92 rfl ff_X6_25 dX6_turnException_89 h (fun r50 h => ?_)
      refine r_bipush C (v := 80) 94 rfl dX6_turnException_92 (by decide) ?_
      refine r_aload_n C (x := some a0) 95 rfl 0 dX6_turnException_94 rfl ?_
      refine r_getI C 98 rfl ff_X6_130 dX6_turnException_95 h (fun x51 h => ?_)
      refine r_imul C 99 rfl dX6_turnException_98 ?_
      refine r_iload_n C 100 rfl 2 dX6_turnException_99 rfl ?_
      refine r_iadd C 101 rfl dX6_turnException_100 ?_
      refine r_aload_n C (x := some a0) 102 rfl 0 dX6_turnException_101 rfl ?_
      refine r_getR C 105 rfl ff_X6_7 dX6_turnException_102 h (fun r52 h => ?_)
      refine r_iload_n C 106 rfl 2 dX6_turnException_105 rfl ?_
      replace h := jdr_some h
      obtain ⟨b53, hr, h⟩ := h
      rw [hr]
      refine r_iald C 107 rfl dX6_turnException_106 h (fun x54 h => ?_)
      replace h := jdr_some h
      obtain ⟨b55, hr, h⟩ := h
      rw [hr]
      refine r_iast C 108 rfl dX6_turnException_107 h (fun t56 h => ?_)
      refine r_iinc C (v := v3 + 1) 111 rfl 2 [(3, .int (v3 + 1)), (0, .ref a0), (2, .int v2)] dX6_turnException_108 rfl rfl (by decide) rfl ?_
      refine r_goto C 80 dX6_turnException_111 (by decide) ?_
      refine r_lv [1, 2, 0] rfl ?_
      exact ih a0 v2 (v3 + 1) t56 h
set_option maxHeartbeats 4000000 in
set_option maxRecDepth 100000 in
theorem k_X6_turnException (l : Launch) (hst : l.stackTraces = false) (g : jG)   (a0 : Nat) (σ : Hp) (o : jO) (τ : Hp) (h : J_X6_turnException a0 σ = some (o, τ)) : jMet l g yX6_turnException (Cond.code yX6_turnException cX6_turnException 4 (some FieldType.boolean) :: gT) ({ frames := 8, cells := 0, slots := 0, locals := 186 } : Room) 0 0 [.ref a0] σ o τ := by
  refine j_start l hst (own := RX6) (by decide) rfl (Nat.le_of_ble_eq_true rfl) ?_
  intro p e s m args below meth c C hE hin
  unfold J_X6_turnException at h
  show jW p l e ({ frames := 8, cells := 0, slots := 0, locals := 186 } : Room) s m args below meth c g (jQ below g o τ args s 0 0) 0 0 0 [(0, .ref a0)] [] σ
  refine r_aload_n C (x := some a0) 1 rfl 0 dX6_turnException_0 rfl ?_
  refine r_getI C 4 rfl ff_X6_81 dX6_turnException_1 h (fun x1 h => ?_)
  obtain ⟨j19, hj19E, h⟩ := jj_some h
  have hj19 : ∀ (x2 : Int32) (t3 : Hp), j19 x2 t3 = some (o, τ) → jW p l e ({ frames := 8, cells := 0, slots := 0, locals := 186 } : Room) s m args below meth c g (jQ below g o τ args s 0 0) 0 0 19 [(0, .ref a0)] [.int x2] t3 := by
    subst hj19E
    intro x2 t3 h
    refine r_istore_n C 20 rfl [(1, .int x2), (0, .ref a0)] dX6_turnException_19 (by decide) rfl ?_
    refine r_iload_n C 21 rfl 0 dX6_turnException_20 rfl ?_
    obtain ⟨j32, hj32E, h⟩ := jj_some h
    have hj32 : ∀ (x4 : Int32) (t5 : Hp), j32 x4 t5 = some (o, τ) → jW p l e ({ frames := 8, cells := 0, slots := 0, locals := 186 } : Room) s m args below meth c g (jQ below g o τ args s 0 0) 0 0 32 [(0, .ref a0), (1, .int x2)] [.int x4] t5 := by
      subst hj32E
      intro x4 t5 h
      refine r_istore_n C 33 rfl [(2, .int x4), (0, .ref a0), (1, .int x2)] dX6_turnException_32 (by decide) rfl ?_
      refine r_aload_n C (x := some a0) 34 rfl 1 dX6_turnException_33 rfl ?_
      refine r_iload_n C 35 rfl 2 dX6_turnException_34 rfl ?_
      obtain ⟨j61, hj61E, h⟩ := jj_some h
      have hj61 : ∀ (x6 : Int32) (t7 : Hp), j61 x6 t7 = some (o, τ) → jW p l e ({ frames := 8, cells := 0, slots := 0, locals := 186 } : Room) s m args below meth c g (jQ below g o τ args s 0 0) 0 0 61 [(0, .ref a0), (2, .int x4)] [.int x6, .ref a0] t7 := by
        subst hj61E
        intro x6 t7 h
        refine r_callV C (ci := 6) mm_X6_84 im_yX6_goesOn se_yX6_goesOn rfl 64 0 0 rfl rfl rfl dX6_turnException_61 rfl rfl (As := [.int x6]) rfl rfl (Nat.le_of_ble_eq_true rfl) ⟨Nat.le_of_ble_eq_true rfl, Nat.le_of_ble_eq_true rfl⟩ ⟨(Nat.le_of_ble_eq_true rfl), (Nat.le_of_ble_eq_true rfl)⟩ (fun o t h => k_X6_goesOn l hst g _ _ _ o t h) h (fun w9 t8 h => ?_) (fun E t h => r_out C (fun x hx => (hE x hx).elim) (Nat.le_refl _) (Nat.le_refl _) h)
        replace h := jvI_some h
        obtain ⟨x10, rfl, h⟩ := h
        refine r_if_ne C 69 67 rfl dX6_turnException_64 (by decide) h (fun h => ?_) (fun h => ?_)
        · refine r_aload_n C (x := some a0) 70 rfl 0 dX6_turnException_69 rfl ?_
          refine r_callV C (ci := 6) mm_X6_113 im_yX6_keepsCells se_yX6_keepsCells rfl 73 0 0 rfl rfl rfl dX6_turnException_70 rfl rfl (As := []) rfl rfl (Nat.le_of_ble_eq_true rfl) ⟨Nat.le_of_ble_eq_true rfl, Nat.le_of_ble_eq_true rfl⟩ ⟨(Nat.le_of_ble_eq_true rfl), (Nat.le_of_ble_eq_true rfl)⟩ (fun o t h => k_X6_keepsCells l hst g _ _ o t h) h (fun w12 t11 h => ?_) (fun E t h => r_out C (fun x hx => (hE x hx).elim) (Nat.le_refl _) (Nat.le_refl _) h)
          replace h := jvV_some h
          obtain ⟨rfl, h⟩ := h
          refine r_iload_n C 74 rfl 1 dX6_turnException_73 rfl ?_
          refine r_iconst C (v := (-1)) 75 rfl dX6_turnException_74 (by decide) ?_
          obtain ⟨j204, hj204E, h⟩ := jj_some h
          have hj204 : ∀ (t13 : Hp), j204 t13 = some (o, τ) → jW p l e ({ frames := 8, cells := 0, slots := 0, locals := 186 } : Room) s m args below meth c g (jQ below g o τ args s 0 0) 0 0 204 [(0, .ref a0), (2, .int x4)] [] t13 := by
            subst hj204E
            intro t13 h
            refine r_aload_n C (x := some a0) 205 rfl 0 dX6_turnException_204 rfl ?_
            refine r_iconst C (v := 0) 206 rfl dX6_turnException_205 (by decide) ?_
            refine r_putI C 209 rfl fp_X6_81 dX6_turnException_206 h (fun t14 h => ?_)
            refine r_aload_n C (x := some a0) 210 rfl 0 dX6_turnException_209 rfl ?_
            refine r_callV C (ci := 6) mm_X6_124 im_yX6_textsChanged se_yX6_textsChanged rfl 213 0 0 rfl rfl rfl dX6_turnException_210 rfl rfl (As := []) rfl rfl (Nat.le_of_ble_eq_true rfl) ⟨Nat.le_of_ble_eq_true rfl, Nat.le_of_ble_eq_true rfl⟩ ⟨(Nat.le_of_ble_eq_true rfl), (Nat.le_of_ble_eq_true rfl)⟩ (fun o t h => k_X6_textsChanged l hst g _ _ o t h) h (fun w16 t15 h => ?_) (fun E t h => r_out C (fun x hx => (hE x hx).elim) (Nat.le_refl _) (Nat.le_refl _) h)
            replace h := jvI_some h
            obtain ⟨x17, rfl, h⟩ := h
            refine r_istore_n C 214 rfl [(3, .int x17), (0, .ref a0), (2, .int x4)] dX6_turnException_213 (by decide) rfl ?_
            refine r_iload_n C 215 rfl 2 dX6_turnException_214 rfl ?_
            refine r_iconst C (v := (-1)) 216 rfl dX6_turnException_215 (by decide) ?_
            refine r_icmp_ne C 223 219 rfl dX6_turnException_216 (by decide) h (fun h => ?_) (fun h => ?_)
            · refine r_iconst C (v := 0) 224 rfl dX6_turnException_223 (by decide) ?_
              exact r_zret C (fun _ => rfl) dX6_turnException_224 (Nat.le_refl _) (Nat.le_refl _) h
            · refine r_iconst C (v := 1) 220 rfl dX6_turnException_219 (by decide) ?_
              refine r_goto C 224 dX6_turnException_220 (by decide) ?_
              exact r_zret C (fun _ => rfl) dX6_turnException_224 (Nat.le_refl _) (Nat.le_refl _) h
          clear hj204E
          refine r_icmp_ne C 140 78 rfl dX6_turnException_75 (by decide) h (fun h => ?_) (fun h => ?_)
          · refine r_aload_n C (x := some a0) 141 rfl 0 dX6_turnException_140 rfl ?_
            refine r_dup C 142 rfl dX6_turnException_141 rfl ?_
            refine r_getI C 145 rfl ff_X6_130 dX6_turnException_142 h (fun x18 h => ?_)
            refine r_iconst C (v := 1) 146 rfl dX6_turnException_145 (by decide) ?_
            refine r_isub C 147 rfl dX6_turnException_146 ?_
            refine r_putI C 150 rfl fp_X6_130 dX6_turnException_147 h (fun t19 h => ?_)
            refine r_iconst C (v := 0) 151 rfl dX6_turnException_150 (by decide) ?_
            refine r_istore_n C 152 rfl [(3, .int 0), (0, .ref a0), (2, .int x4)] dX6_turnException_151 (by decide) rfl ?_
            refine r_lv [1, 2, 0] rfl ?_
            refine w_X6_turnException_L152 l hst  C hE  jN a0 x4 0 t19 h
          · refine r_iconst C (v := 0) 79 rfl dX6_turnException_78 (by decide) ?_
            refine r_istore_n C 80 rfl [(3, .int 0), (0, .ref a0), (2, .int x4)] dX6_turnException_79 (by decide) rfl ?_
            refine r_lv [1, 2, 0] rfl ?_
            refine w_X6_turnException_L80 l hst  C hE  jN a0 x4 0 t11 h
        · refine r_iconst C (v := 0) 68 rfl dX6_turnException_67 (by decide) ?_
          exact r_zret C (fun _ => rfl) dX6_turnException_68 (Nat.le_refl _) (Nat.le_refl _) h
      clear hj61E
      refine r_if_ne C 42 38 rfl dX6_turnException_35 (by decide) h (fun h => ?_) (fun h => ?_)
      · refine r_iload_n C 43 rfl 0 dX6_turnException_42 rfl ?_
        refine r_iconst C (v := (-1)) 44 rfl dX6_turnException_43 (by decide) ?_
        obtain ⟨j60, hj60E, h⟩ := jj_some h
        have hj60 : ∀ (t57 : Hp), j60 t57 = some (o, τ) → jW p l e ({ frames := 8, cells := 0, slots := 0, locals := 186 } : Room) s m args below meth c g (jQ below g o τ args s 0 0) 0 0 60 [(0, .ref a0), (2, .int x4)] [.ref a0] t57 := by
          subst hj60E
          intro t57 h
          refine r_iconst C (v := 0) 61 rfl dX6_turnException_60 (by decide) ?_
          exact hj61 0 t57 h
        clear hj60E
        refine r_icmp_ne C 60 47 rfl dX6_turnException_44 (by decide) h (fun h => ?_) (fun h => ?_)
        · refine r_lv [1, 0] rfl ?_
          exact hj60 t5 h
        · refine r_aload_n C (x := some a0) 48 rfl 1 dX6_turnException_47 rfl ?_
          refine r_getI C 51 rfl ff_X6_130 dX6_turnException_48 h (fun x58 h => ?_)
          refine r_bipush C (v := 20) 53 rfl dX6_turnException_51 (by decide) ?_
          refine r_icmp_ne C 60 56 rfl dX6_turnException_53 (by decide) h (fun h => ?_) (fun h => ?_)
          · refine r_lv [1, 0] rfl ?_
            exact hj60 t5 h
          · refine r_iconst C (v := 2) 57 rfl dX6_turnException_56 (by decide) ?_
            refine r_goto C 61 dX6_turnException_57 (by decide) ?_
            refine r_lv [1, 0] rfl ?_
            exact hj61 2 t5 h
      · refine r_iconst C (v := 1) 39 rfl dX6_turnException_38 (by decide) ?_
        refine r_goto C 61 dX6_turnException_39 (by decide) ?_
        refine r_lv [1, 0] rfl ?_
        exact hj61 1 t5 h
    clear hj32E
    refine r_if_eq C 31 24 rfl dX6_turnException_21 (by decide) h (fun h => ?_) (fun h => ?_)
    · refine r_iconst C (v := (-1)) 32 rfl dX6_turnException_31 (by decide) ?_
      refine r_lv [1, 0] rfl ?_
      exact hj32 ((-1)) t3 h
    · refine r_aload_n C (x := some a0) 25 rfl 1 dX6_turnException_24 rfl ?_
      refine r_callV C (ci := 6) mm_X6_136 im_yX6_exceptionInBuffer se_yX6_exceptionInBuffer rfl 28 0 0 rfl rfl rfl dX6_turnException_25 rfl rfl (As := []) rfl rfl (Nat.le_of_ble_eq_true rfl) ⟨Nat.le_of_ble_eq_true rfl, Nat.le_of_ble_eq_true rfl⟩ ⟨(Nat.le_of_ble_eq_true rfl), (Nat.le_of_ble_eq_true rfl)⟩ (fun o t h => k_X6_exceptionInBuffer l hst g _ _ o t h) h (fun w60 t59 h => ?_) (fun E t h => r_out C (fun x hx => (hE x hx).elim) (Nat.le_refl _) (Nat.le_refl _) h)
      replace h := jvI_some h
      obtain ⟨x61, rfl, h⟩ := h
      refine r_goto C 32 dX6_turnException_28 (by decide) ?_
      refine r_lv [1, 0] rfl ?_
      exact hj32 x61 t59 h
  clear hj19E
  obtain ⟨j18, hj18E, h⟩ := jj_some h
  have hj18 : ∀ (t62 : Hp), j18 t62 = some (o, τ) → jW p l e ({ frames := 8, cells := 0, slots := 0, locals := 186 } : Room) s m args below meth c g (jQ below g o τ args s 0 0) 0 0 18 [(0, .ref a0)] [] t62 := by
    subst hj18E
    intro t62 h
    refine r_iconst C (v := 0) 19 rfl dX6_turnException_18 (by decide) ?_
    exact hj19 0 t62 h
  clear hj18E
  refine r_if_le C 18 7 rfl dX6_turnException_4 (by decide) h (fun h => ?_) (fun h => ?_)
  · exact hj18 σ h
  · refine r_aload_n C (x := some a0) 8 rfl 0 dX6_turnException_7 rfl ?_
    refine r_callV C (ci := 6) mm_X6_88 im_yX6_hasBlank se_yX6_hasBlank rfl 11 0 0 rfl rfl rfl dX6_turnException_8 rfl rfl (As := []) rfl rfl (Nat.le_of_ble_eq_true rfl) ⟨Nat.le_of_ble_eq_true rfl, Nat.le_of_ble_eq_true rfl⟩ ⟨(Nat.le_of_ble_eq_true rfl), (Nat.le_of_ble_eq_true rfl)⟩ (fun o t h => k_X6_hasBlank l hst g _ _ o t h) h (fun w64 t63 h => ?_) (fun E t h => r_out C (fun x hx => (hE x hx).elim) (Nat.le_refl _) (Nat.le_refl _) h)
    replace h := jvI_some h
    obtain ⟨x65, rfl, h⟩ := h
    refine r_if_ne C 18 14 rfl dX6_turnException_11 (by decide) h (fun h => ?_) (fun h => ?_)
    · exact hj18 t63 h
    · refine r_iconst C (v := 1) 15 rfl dX6_turnException_14 (by decide) ?_
      refine r_goto C 19 dX6_turnException_15 (by decide) ?_
      exact hj19 1 t63 h

def J_X6_isText  (a0 : Nat) (v1 : Int32) (σ : Hp) : jR := jgI σ a0 6 14 (fun x1 => jcs (J_X6_in v1 0 (x1 - 1) σ) (fun w3 t2 => jvI w3 (fun x4 => jrt .boolean x4 t2)) (fun E t => some (.inr E, t)))
set_option maxHeartbeats 4000000 in
set_option maxRecDepth 100000 in
theorem k_X6_isText (l : Launch) (hst : l.stackTraces = false) (g : jG)   (a0 : Nat) (v1 : Int32) (σ : Hp) (o : jO) (τ : Hp) (h : J_X6_isText a0 v1 σ = some (o, τ)) : jMet l g yX6_isText (Cond.code yX6_isText cX6_isText 2 (some FieldType.boolean) :: gT) ({ frames := 2, cells := 0, slots := 0, locals := 34 } : Room) 0 0 [.ref a0, .int v1] σ o τ := by
  refine j_start l hst (own := RX6) (by decide) rfl (Nat.le_of_ble_eq_true rfl) ?_
  intro p e s m args below meth c C hE hin
  unfold J_X6_isText at h
  show jW p l e ({ frames := 2, cells := 0, slots := 0, locals := 34 } : Room) s m args below meth c g (jQ below g o τ args s 0 0) 0 0 0 [(0, .ref a0), (1, .int v1)] [] σ
  refine r_iload_n C 1 rfl 1 dX6_isText_0 rfl ?_
  refine r_iconst C (v := 0) 2 rfl dX6_isText_1 (by decide) ?_
  refine r_aload_n C (x := some a0) 3 rfl 0 dX6_isText_2 rfl ?_
  refine r_getI C 6 rfl ff_X6_162 dX6_isText_3 h (fun x1 h => ?_)
  refine r_iconst C (v := 1) 7 rfl dX6_isText_6 (by decide) ?_
  refine r_isub C 8 rfl dX6_isText_7 ?_
  refine r_callS C mm_X6_77 st_yX6_in 11 0 0 rfl rfl rfl dX6_isText_8 rfl rfl (As := [.int v1, .int 0, .int (x1 - 1)]) rfl rfl (Nat.le_of_ble_eq_true rfl) ⟨Nat.le_of_ble_eq_true rfl, Nat.le_of_ble_eq_true rfl⟩ ⟨(Nat.le_of_ble_eq_true rfl), (Nat.le_of_ble_eq_true rfl)⟩ (fun o t h => k_X6_in l hst g _ _ _ _ o t h) h (fun w3 t2 h => ?_) (fun E t h => r_out C (fun x hx => (hE x hx).elim) (Nat.le_refl _) (Nat.le_refl _) h)
  replace h := jvI_some h
  obtain ⟨x4, rfl, h⟩ := h
  exact r_zret C (fun _ => rfl) dX6_isText_11 (Nat.le_refl _) (Nat.le_refl _) h

def J_X6_setText_L157b   (rc : Nat → Int32 → Int32 → Hp → jR) (a0 : Nat) (v1 : Int32) (v4 : Int32) (t0 : Hp) : jR := (if 40 ≤ v4 then jcv t0 a0 6 (J_X6_wordsOf a0 v1 t0) (fun w25 t24 => jvI w25 (fun x26 => some (.inl (some (.int x26)), t24))) (fun E t => some (.inr E, t)) else jgR t0 a0 6 19 (fun r27 => jdr r27 (fun b28 => jsI t0 b28 ((40 * v1) + v4) 0 (fun t29 => jgR t29 a0 6 19 (fun r30 => jdr r30 (fun b31 => jsI t29 b31 ((240 + (40 * v1)) + v4) 0 (fun t32 => rc a0 v1 (v4 + 1) t32)))))))
def J_X6_setText_L157   : Nat → Nat → Int32 → Int32 → Hp → jR
  | 0 => fun _ _ _ _ => none
  | n + 1 => J_X6_setText_L157b   (J_X6_setText_L157   n)
def J_X6_setText_L87b   (rc : Nat → Int32 → Int32 → Int32 → Hp → jR) (a0 : Nat) (v1 : Int32) (v2 : Int32) (v4 : Int32) (t0 : Hp) : jR := (if 80 ≤ v4 then jgR t0 a0 6 12 (fun r16 => jgI t0 a0 6 2 (fun x17 => jdr r16 (fun b18 => jsI t0 b18 v1 x17 (fun t19 => jgR t19 a0 6 13 (fun r20 => jdr r20 (fun b21 => jsI t19 b21 v1 v2 (fun t22 => jpI t22 a0 6 2 0 (fun t23 => J_X6_setText_L157   jN a0 v1 0 t23)))))))) else jgR t0 a0 6 11 (fun r33 => jgI t0 a0 6 2 (fun x34 => jj (fun (x35 : Int32) (t36 : Hp) => jdr r33 (fun b37 => jsI t36 b37 ((80 * v1) + v4) x35 (fun t38 => rc a0 v1 v2 (v4 + 1) t38))) (fun j125 => (if x34 ≤ v4 then j125 0 t0 else jgR t0 a0 6 1 (fun r39 => jdr r39 (fun b40 => jaI t0 b40 v4 (fun x41 => j125 x41 t0))))))))
def J_X6_setText_L87   : Nat → Nat → Int32 → Int32 → Int32 → Hp → jR
  | 0 => fun _ _ _ _ _ => none
  | n + 1 => J_X6_setText_L87b   (J_X6_setText_L87   n)
def J_X6_setText  (a0 : Nat) (v1 : Int32) (v2 : Int32) (σ : Hp) : jR := jcv σ a0 6 (J_X6_isText a0 v1 σ) (fun w2 t1 => jvI w2 (fun x3 => jj (fun (x4 : Int32) (t5 : Hp) => jj (fun (x6 : Int32) (t7 : Hp) => jcv t7 a0 6 (J_X6_goesOn a0 x6 t7) (fun w9 t8 => jvI w9 (fun x10 => (if x10 = 0 then some (.inl (some (.int 0)), t8) else jgI t8 a0 6 14 (fun x11 => jgI t8 a0 6 14 (fun x12 => jj (fun (x13 : Int32) (t14 : Hp) => jpI t14 a0 6 14 (x11 + x13) (fun t15 => J_X6_setText_L87   jN a0 v1 v2 0 t15)) (fun j80 => (if v1 = x12 then j80 1 t8 else j80 0 t8))))))) (fun E t => some (.inr E, t))) (fun j54 => (if x4 = 0 then j54 1 t5 else jcs (J_X6_in v2 1 2 t5) (fun w43 t42 => jvI w43 (fun x44 => (if x44 = 0 then j54 2 t42 else j54 0 t42))) (fun E t => some (.inr E, t))))) (fun j30 => jj (fun (t45 : Hp) => j30 1 t45) (fun j25 => (if x3 = 0 then jgI t1 a0 6 14 (fun x46 => jj (fun (t47 : Hp) => j30 0 t47) (fun j29 => (if v1 = x46 then jgI t1 a0 6 14 (fun x48 => (if 6 ≤ x48 then j29 t1 else j25 t1)) else j29 t1))) else j25 t1))))) (fun E t => some (.inr E, t))
set_option maxHeartbeats 4000000 in
set_option maxRecDepth 100000 in
theorem w_X6_setText_L157 (l : Launch) (hst : l.stackTraces = false) {p : Program} {e : Env} {s : State} {m : MethodId} {args : Array Value} {below : List Frame} {meth : Method} {c : Code} {g : jG} {o : jO} {τ : Hp}  (C : jC p l s m args meth c g RX6 cX6_setText 5 (some FieldType.int)) (hE : ∀ x ∈ c.exceptionTable.toList, False)  : ∀ (n : Nat) (a0 : Nat) (v1 : Int32) (v4 : Int32) (t0 : Hp), J_X6_setText_L157   n a0 v1 v4 t0 = some (o, τ) → jW p l e ({ frames := 3, cells := 0, slots := 0, locals := 58 } : Room) s m args below meth c g (jQ below g o τ args s 0 0) 0 0 157 [(0, .ref a0), (1, .int v1), (4, .int v4)] [] t0 := by
  intro n
  induction n with
  | zero => intro a0 v1 v4 t0 h; cases h
  | succ n ih =>
    intro a0 v1 v4 t0 h
    have h : J_X6_setText_L157b   (J_X6_setText_L157   n) a0 v1 v4 t0 = some (o, τ) := h
    unfold J_X6_setText_L157b at h
    refine r_iload C 159 rfl 2 dX6_setText_157 rfl ?_
    refine r_bipush C (v := 40) 161 rfl dX6_setText_159 (by decide) ?_
    refine r_icmp_ge C 200 164 rfl dX6_setText_161 (by decide) h (fun h => ?_) (fun h => ?_)
    · refine r_aload_n C (x := some a0) 201 rfl 0 dX6_setText_200 rfl ?_
      refine r_iload_n C 202 rfl 1 dX6_setText_201 rfl ?_
      refine r_callV C (ci := 6) mm_X6_165 im_yX6_wordsOf se_yX6_wordsOf rfl 205 0 0 rfl rfl rfl dX6_setText_202 rfl rfl (As := [.int v1]) rfl rfl (Nat.le_of_ble_eq_true rfl) ⟨Nat.le_of_ble_eq_true rfl, Nat.le_of_ble_eq_true rfl⟩ ⟨(Nat.le_of_ble_eq_true rfl), (Nat.le_of_ble_eq_true rfl)⟩ (fun o t h => k_X6_wordsOf l hst g _ _ _ o t h) h (fun w25 t24 h => ?_) (fun E t h => r_out C (fun x hx => (hE x hx).elim) (Nat.le_refl _) (Nat.le_refl _) h)
      replace h := jvI_some h
      obtain ⟨x26, rfl, h⟩ := h
      exact r_iret C dX6_setText_205 (Nat.le_refl _) (Nat.le_refl _) h
    · refine r_aload_n C (x := some a0) 165 rfl 0 dX6_setText_164 rfl ?_
      refine r_getR C 168 rfl ff_X6_53 dX6_setText_165 h (fun r27 h => ?_)
      refine r_bipush C (v := 40) 170 rfl dX6_setText_168 (by decide) ?_
      refine r_iload_n C 171 rfl 1 dX6_setText_170 rfl ?_
      refine r_imul C 172 rfl dX6_setText_171 ?_
      refine r_iload C 174 rfl 2 dX6_setText_172 rfl ?_
      refine r_iadd C 175 rfl dX6_setText_174 ?_
      refine r_iconst C (v := 0) 176 rfl dX6_setText_175 (by decide) ?_
      replace h := jdr_some h
      obtain ⟨b28, hr, h⟩ := h
      rw [hr]
      refine r_iast C 177 rfl dX6_setText_176 h (fun t29 h => ?_)
      refine r_aload_n C (x := some a0) 178 rfl 0 dX6_setText_177 rfl ?_
      refine r_getR C 181 rfl ff_X6_53 dX6_setText_178 h (fun r30 h => ?_)
      refine r_sipush C (v := 240) 184 rfl dX6_setText_181 (by decide) ?_
      refine r_bipush C (v := 40) 186 rfl dX6_setText_184 (by decide) ?_
      refine r_iload_n C 187 rfl 1 dX6_setText_186 rfl ?_
      refine r_imul C 188 rfl dX6_setText_187 ?_
      refine r_iadd C 189 rfl dX6_setText_188 ?_
      refine r_iload C 191 rfl 2 dX6_setText_189 rfl ?_
      refine r_iadd C 192 rfl dX6_setText_191 ?_
      refine r_iconst C (v := 0) 193 rfl dX6_setText_192 (by decide) ?_
      replace h := jdr_some h
      obtain ⟨b31, hr, h⟩ := h
      rw [hr]
      refine r_iast C 194 rfl dX6_setText_193 h (fun t32 h => ?_)
      refine r_iinc C (v := v4 + 1) 197 rfl 2 [(4, .int (v4 + 1)), (0, .ref a0), (1, .int v1)] dX6_setText_194 rfl rfl (by decide) rfl ?_
      refine r_goto C 157 dX6_setText_197 (by decide) ?_
      refine r_lv [1, 2, 0] rfl ?_
      exact ih a0 v1 (v4 + 1) t32 h
set_option maxHeartbeats 4000000 in
set_option maxRecDepth 100000 in
theorem w_X6_setText_L87 (l : Launch) (hst : l.stackTraces = false) {p : Program} {e : Env} {s : State} {m : MethodId} {args : Array Value} {below : List Frame} {meth : Method} {c : Code} {g : jG} {o : jO} {τ : Hp}  (C : jC p l s m args meth c g RX6 cX6_setText 5 (some FieldType.int)) (hE : ∀ x ∈ c.exceptionTable.toList, False)  : ∀ (n : Nat) (a0 : Nat) (v1 : Int32) (v2 : Int32) (v4 : Int32) (t0 : Hp), J_X6_setText_L87   n a0 v1 v2 v4 t0 = some (o, τ) → jW p l e ({ frames := 3, cells := 0, slots := 0, locals := 58 } : Room) s m args below meth c g (jQ below g o τ args s 0 0) 0 0 87 [(0, .ref a0), (1, .int v1), (2, .int v2), (4, .int v4)] [] t0 := by
  intro n
  induction n with
  | zero => intro a0 v1 v2 v4 t0 h; cases h
  | succ n ih =>
    intro a0 v1 v2 v4 t0 h
    have h : J_X6_setText_L87b   (J_X6_setText_L87   n) a0 v1 v2 v4 t0 = some (o, τ) := h
    unfold J_X6_setText_L87b at h
    refine r_iload C 89 rfl 3 dX6_setText_87 rfl ?_
    refine r_bipush C (v := 80) 91 rfl dX6_setText_89 (by decide) ?_
    refine r_icmp_ge C 132 94 rfl dX6_setText_91 (by decide) h (fun h => ?_) (fun h => ?_)
    · refine r_aload_n C (x := some a0) 133 rfl 0 dX6_setText_132 rfl ?_
      refine r_getR C 136 rfl ff_X6_34 dX6_setText_133 h (fun r16 h => ?_)
      refine r_iload_n C 137 rfl 1 dX6_setText_136 rfl ?_
      refine r_aload_n C (x := some a0) 138 rfl 0 dX6_setText_137 rfl ?_
      refine r_getI C 141 rfl ff_X6_81 dX6_setText_138 h (fun x17 h => ?_)
      replace h := jdr_some h
      obtain ⟨b18, hr, h⟩ := h
      rw [hr]
      refine r_iast C 142 rfl dX6_setText_141 h (fun t19 h => ?_)
      refine r_aload_n C (x := some a0) 143 rfl 0 dX6_setText_142 rfl ?_
      refine r_getR C 146 rfl ff_X6_37 dX6_setText_143 h (fun r20 h => ?_)
      refine r_iload_n C 147 rfl 1 dX6_setText_146 rfl ?_
      refine r_iload_n C 148 rfl 2 dX6_setText_147 rfl ?_
      replace h := jdr_some h
      obtain ⟨b21, hr, h⟩ := h
      rw [hr]
      refine r_iast C 149 rfl dX6_setText_148 h (fun t22 h => ?_)
      refine r_aload_n C (x := some a0) 150 rfl 0 dX6_setText_149 rfl ?_
      refine r_iconst C (v := 0) 151 rfl dX6_setText_150 (by decide) ?_
      refine r_putI C 154 rfl fp_X6_81 dX6_setText_151 h (fun t23 h => ?_)
      refine r_iconst C (v := 0) 155 rfl dX6_setText_154 (by decide) ?_
      refine r_istore C 157 rfl [(4, .int 0), (0, .ref a0), (1, .int v1), (2, .int v2)] dX6_setText_155 (by decide) rfl ?_
      refine r_lv [1, 2, 0] rfl ?_
      refine w_X6_setText_L157 l hst  C hE  jN a0 v1 0 t23 h
    · refine r_aload_n C (x := some a0) 95 rfl 0 dX6_setText_94 rfl ?_
      refine r_getR C 98 rfl ff_X6_31 dX6_setText_95 h (fun r33 h => ?_)
      refine r_bipush C (v := 80) 100 rfl dX6_setText_98 (by decide) ?_
      refine r_iload_n C 101 rfl 1 dX6_setText_100 rfl ?_
      refine r_imul C 102 rfl dX6_setText_101 ?_
      refine r_iload C 104 rfl 3 dX6_setText_102 rfl ?_
      refine r_iadd C 105 rfl dX6_setText_104 ?_
      refine r_iload C 107 rfl 3 dX6_setText_105 rfl ?_
      refine r_aload_n C (x := some a0) 108 rfl 0 dX6_setText_107 rfl ?_
      refine r_getI C 111 rfl ff_X6_81 dX6_setText_108 h (fun x34 h => ?_)
      obtain ⟨j125, hj125E, h⟩ := jj_some h
      have hj125 : ∀ (x35 : Int32) (t36 : Hp), j125 x35 t36 = some (o, τ) → jW p l e ({ frames := 3, cells := 0, slots := 0, locals := 58 } : Room) s m args below meth c g (jQ below g o τ args s 0 0) 0 0 125 [(0, .ref a0), (1, .int v1), (2, .int v2), (4, .int v4)] [.int x35, .int ((80 * v1) + v4), va_rf r33] t36 := by
        subst hj125E
        intro x35 t36 h
        replace h := jdr_some h
        obtain ⟨b37, hr, h⟩ := h
        rw [hr]
        refine r_iast C 126 rfl dX6_setText_125 h (fun t38 h => ?_)
        refine r_iinc C (v := v4 + 1) 129 rfl 3 [(4, .int (v4 + 1)), (0, .ref a0), (1, .int v1), (2, .int v2)] dX6_setText_126 rfl rfl (by decide) rfl ?_
        refine r_goto C 87 dX6_setText_129 (by decide) ?_
        refine r_lv [1, 2, 3, 0] rfl ?_
        exact ih a0 v1 v2 (v4 + 1) t38 h
      clear hj125E
      refine r_icmp_ge C 124 114 rfl dX6_setText_111 (by decide) h (fun h => ?_) (fun h => ?_)
      · refine r_iconst C (v := 0) 125 rfl dX6_setText_124 (by decide) ?_
        exact hj125 0 t0 h
      · refine r_aload_n C (x := some a0) 115 rfl 0 dX6_setText_114 rfl ?_
        refine r_getR C 118 rfl ff_X6_7 dX6_setText_115 h (fun r39 h => ?_)
        refine r_iload C 120 rfl 3 dX6_setText_118 rfl ?_
        replace h := jdr_some h
        obtain ⟨b40, hr, h⟩ := h
        rw [hr]
        refine r_iald C 121 rfl dX6_setText_120 h (fun x41 h => ?_)
        refine r_goto C 125 dX6_setText_121 (by decide) ?_
        exact hj125 x41 t0 h
set_option maxHeartbeats 4000000 in
set_option maxRecDepth 100000 in
theorem k_X6_setText (l : Launch) (hst : l.stackTraces = false) (g : jG)   (a0 : Nat) (v1 : Int32) (v2 : Int32) (σ : Hp) (o : jO) (τ : Hp) (h : J_X6_setText a0 v1 v2 σ = some (o, τ)) : jMet l g yX6_setText (Cond.code yX6_setText cX6_setText 5 (some FieldType.int) :: gT) ({ frames := 3, cells := 0, slots := 0, locals := 58 } : Room) 0 0 [.ref a0, .int v1, .int v2] σ o τ := by
  refine j_start l hst (own := RX6) (by decide) rfl (Nat.le_of_ble_eq_true rfl) ?_
  intro p e s m args below meth c C hE hin
  unfold J_X6_setText at h
  show jW p l e ({ frames := 3, cells := 0, slots := 0, locals := 58 } : Room) s m args below meth c g (jQ below g o τ args s 0 0) 0 0 0 [(0, .ref a0), (1, .int v1), (2, .int v2)] [] σ
  refine r_aload_n C (x := some a0) 1 rfl 0 dX6_setText_0 rfl ?_
  refine r_iload_n C 2 rfl 1 dX6_setText_1 rfl ?_
  refine r_callV C (ci := 6) mm_X6_171 im_yX6_isText se_yX6_isText rfl 5 0 0 rfl rfl rfl dX6_setText_2 rfl rfl (As := [.int v1]) rfl rfl (Nat.le_of_ble_eq_true rfl) ⟨Nat.le_of_ble_eq_true rfl, Nat.le_of_ble_eq_true rfl⟩ ⟨(Nat.le_of_ble_eq_true rfl), (Nat.le_of_ble_eq_true rfl)⟩ (fun o t h => k_X6_isText l hst g _ _ _ o t h) h (fun w2 t1 h => ?_) (fun E t h => r_out C (fun x hx => (hE x hx).elim) (Nat.le_refl _) (Nat.le_refl _) h)
  replace h := jvI_some h
  obtain ⟨x3, rfl, h⟩ := h
  obtain ⟨j30, hj30E, h⟩ := jj_some h
  have hj30 : ∀ (x4 : Int32) (t5 : Hp), j30 x4 t5 = some (o, τ) → jW p l e ({ frames := 3, cells := 0, slots := 0, locals := 58 } : Room) s m args below meth c g (jQ below g o τ args s 0 0) 0 0 30 [(0, .ref a0), (1, .int v1), (2, .int v2)] [.int x4] t5 := by
    subst hj30E
    intro x4 t5 h
    refine r_istore_n C 31 rfl [(3, .int x4), (0, .ref a0), (1, .int v1), (2, .int v2)] dX6_setText_30 (by decide) rfl ?_
    refine r_aload_n C (x := some a0) 32 rfl 1 dX6_setText_31 rfl ?_
    refine r_iload_n C 33 rfl 0 dX6_setText_32 rfl ?_
    obtain ⟨j54, hj54E, h⟩ := jj_some h
    have hj54 : ∀ (x6 : Int32) (t7 : Hp), j54 x6 t7 = some (o, τ) → jW p l e ({ frames := 3, cells := 0, slots := 0, locals := 58 } : Room) s m args below meth c g (jQ below g o τ args s 0 0) 0 0 54 [(0, .ref a0), (1, .int v1), (2, .int v2)] [.int x6, .ref a0] t7 := by
      subst hj54E
      intro x6 t7 h
      refine r_callV C (ci := 6) mm_X6_84 im_yX6_goesOn se_yX6_goesOn rfl 57 0 0 rfl rfl rfl dX6_setText_54 rfl rfl (As := [.int x6]) rfl rfl (Nat.le_of_ble_eq_true rfl) ⟨Nat.le_of_ble_eq_true rfl, Nat.le_of_ble_eq_true rfl⟩ ⟨(Nat.le_of_ble_eq_true rfl), (Nat.le_of_ble_eq_true rfl)⟩ (fun o t h => k_X6_goesOn l hst g _ _ _ o t h) h (fun w9 t8 h => ?_) (fun E t h => r_out C (fun x hx => (hE x hx).elim) (Nat.le_refl _) (Nat.le_refl _) h)
      replace h := jvI_some h
      obtain ⟨x10, rfl, h⟩ := h
      refine r_if_ne C 62 60 rfl dX6_setText_57 (by decide) h (fun h => ?_) (fun h => ?_)
      · refine r_aload_n C (x := some a0) 63 rfl 0 dX6_setText_62 rfl ?_
        refine r_dup C 64 rfl dX6_setText_63 rfl ?_
        refine r_getI C 67 rfl ff_X6_162 dX6_setText_64 h (fun x11 h => ?_)
        refine r_iload_n C 68 rfl 1 dX6_setText_67 rfl ?_
        refine r_aload_n C (x := some a0) 69 rfl 0 dX6_setText_68 rfl ?_
        refine r_getI C 72 rfl ff_X6_162 dX6_setText_69 h (fun x12 h => ?_)
        obtain ⟨j80, hj80E, h⟩ := jj_some h
        have hj80 : ∀ (x13 : Int32) (t14 : Hp), j80 x13 t14 = some (o, τ) → jW p l e ({ frames := 3, cells := 0, slots := 0, locals := 58 } : Room) s m args below meth c g (jQ below g o τ args s 0 0) 0 0 80 [(0, .ref a0), (1, .int v1), (2, .int v2)] [.int x13, .int x11, .ref a0] t14 := by
          subst hj80E
          intro x13 t14 h
          refine r_iadd C 81 rfl dX6_setText_80 ?_
          refine r_putI C 84 rfl fp_X6_162 dX6_setText_81 h (fun t15 h => ?_)
          refine r_iconst C (v := 0) 85 rfl dX6_setText_84 (by decide) ?_
          refine r_istore C 87 rfl [(4, .int 0), (0, .ref a0), (1, .int v1), (2, .int v2)] dX6_setText_85 (by decide) rfl ?_
          refine r_lv [1, 2, 3, 0] rfl ?_
          refine w_X6_setText_L87 l hst  C hE  jN a0 v1 v2 0 t15 h
        clear hj80E
        refine r_icmp_ne C 79 75 rfl dX6_setText_72 (by decide) h (fun h => ?_) (fun h => ?_)
        · refine r_iconst C (v := 0) 80 rfl dX6_setText_79 (by decide) ?_
          exact hj80 0 t8 h
        · refine r_iconst C (v := 1) 76 rfl dX6_setText_75 (by decide) ?_
          refine r_goto C 80 dX6_setText_76 (by decide) ?_
          exact hj80 1 t8 h
      · refine r_iconst C (v := 0) 61 rfl dX6_setText_60 (by decide) ?_
        exact r_iret C dX6_setText_61 (Nat.le_refl _) (Nat.le_refl _) h
    clear hj54E
    refine r_if_ne C 40 36 rfl dX6_setText_33 (by decide) h (fun h => ?_) (fun h => ?_)
    · refine r_iload_n C 41 rfl 3 dX6_setText_40 rfl ?_
      refine r_iconst C (v := 1) 42 rfl dX6_setText_41 (by decide) ?_
      refine r_iconst C (v := 2) 43 rfl dX6_setText_42 (by decide) ?_
      refine r_callS C mm_X6_77 st_yX6_in 46 0 0 rfl rfl rfl dX6_setText_43 rfl rfl (As := [.int v2, .int 1, .int 2]) rfl rfl (Nat.le_of_ble_eq_true rfl) ⟨Nat.le_of_ble_eq_true rfl, Nat.le_of_ble_eq_true rfl⟩ ⟨(Nat.le_of_ble_eq_true rfl), (Nat.le_of_ble_eq_true rfl)⟩ (fun o t h => k_X6_in l hst g _ _ _ _ o t h) h (fun w43 t42 h => ?_) (fun E t h => r_out C (fun x hx => (hE x hx).elim) (Nat.le_refl _) (Nat.le_refl _) h)
      replace h := jvI_some h
      obtain ⟨x44, rfl, h⟩ := h
      refine r_if_ne C 53 49 rfl dX6_setText_46 (by decide) h (fun h => ?_) (fun h => ?_)
      · refine r_iconst C (v := 0) 54 rfl dX6_setText_53 (by decide) ?_
        refine r_lv [1, 2, 3] rfl ?_
        exact hj54 0 t42 h
      · refine r_iconst C (v := 2) 50 rfl dX6_setText_49 (by decide) ?_
        refine r_goto C 54 dX6_setText_50 (by decide) ?_
        refine r_lv [1, 2, 3] rfl ?_
        exact hj54 2 t42 h
    · refine r_iconst C (v := 1) 37 rfl dX6_setText_36 (by decide) ?_
      refine r_goto C 54 dX6_setText_37 (by decide) ?_
      refine r_lv [1, 2, 3] rfl ?_
      exact hj54 1 t5 h
  clear hj30E
  obtain ⟨j25, hj25E, h⟩ := jj_some h
  have hj25 : ∀ (t45 : Hp), j25 t45 = some (o, τ) → jW p l e ({ frames := 3, cells := 0, slots := 0, locals := 58 } : Room) s m args below meth c g (jQ below g o τ args s 0 0) 0 0 25 [(0, .ref a0), (1, .int v1), (2, .int v2)] [] t45 := by
    subst hj25E
    intro t45 h
    refine r_iconst C (v := 1) 26 rfl dX6_setText_25 (by decide) ?_
    refine r_goto C 30 dX6_setText_26 (by decide) ?_
    exact hj30 1 t45 h
  clear hj25E
  refine r_if_ne C 25 8 rfl dX6_setText_5 (by decide) h (fun h => ?_) (fun h => ?_)
  · exact hj25 t1 h
  · refine r_iload_n C 9 rfl 1 dX6_setText_8 rfl ?_
    refine r_aload_n C (x := some a0) 10 rfl 0 dX6_setText_9 rfl ?_
    refine r_getI C 13 rfl ff_X6_162 dX6_setText_10 h (fun x46 h => ?_)
    obtain ⟨j29, hj29E, h⟩ := jj_some h
    have hj29 : ∀ (t47 : Hp), j29 t47 = some (o, τ) → jW p l e ({ frames := 3, cells := 0, slots := 0, locals := 58 } : Room) s m args below meth c g (jQ below g o τ args s 0 0) 0 0 29 [(0, .ref a0), (1, .int v1), (2, .int v2)] [] t47 := by
      subst hj29E
      intro t47 h
      refine r_iconst C (v := 0) 30 rfl dX6_setText_29 (by decide) ?_
      exact hj30 0 t47 h
    clear hj29E
    refine r_icmp_ne C 29 16 rfl dX6_setText_13 (by decide) h (fun h => ?_) (fun h => ?_)
    · exact hj29 t1 h
    · refine r_aload_n C (x := some a0) 17 rfl 0 dX6_setText_16 rfl ?_
      refine r_getI C 20 rfl ff_X6_162 dX6_setText_17 h (fun x48 h => ?_)
      refine r_bipush C (v := 6) 22 rfl dX6_setText_20 (by decide) ?_
      refine r_icmp_ge C 29 25 rfl dX6_setText_22 (by decide) h (fun h => ?_) (fun h => ?_)
      · exact hj29 t1 h
      · exact hj25 t1 h

def J_X6_setWidth  (a0 : Nat) (v1 : Int32) (σ : Hp) : jR := jcs (J_X6_in v1 8 40 σ) (fun w2 t1 => jvI w2 (fun x3 => jj (fun (x4 : Int32) (t5 : Hp) => jcv t5 a0 6 (J_X6_goesOn a0 x4 t5) (fun w7 t6 => jvI w7 (fun x8 => (if x8 = 0 then some (.inl (some (.int 0)), t6) else jgI t6 a0 6 15 (fun x9 => jpI t6 a0 6 15 v1 (fun t10 => some (.inl (some (.int x9)), t10)))))) (fun E t => some (.inr E, t))) (fun j17 => (if x3 = 0 then j17 1 t1 else j17 0 t1)))) (fun E t => some (.inr E, t))
set_option maxHeartbeats 4000000 in
set_option maxRecDepth 100000 in
theorem k_X6_setWidth (l : Launch) (hst : l.stackTraces = false) (g : jG)   (a0 : Nat) (v1 : Int32) (σ : Hp) (o : jO) (τ : Hp) (h : J_X6_setWidth a0 v1 σ = some (o, τ)) : jMet l g yX6_setWidth (Cond.code yX6_setWidth cX6_setWidth 3 (some FieldType.int) :: gT) ({ frames := 2, cells := 0, slots := 0, locals := 34 } : Room) 0 0 [.ref a0, .int v1] σ o τ := by
  refine j_start l hst (own := RX6) (by decide) rfl (Nat.le_of_ble_eq_true rfl) ?_
  intro p e s m args below meth c C hE hin
  unfold J_X6_setWidth at h
  show jW p l e ({ frames := 2, cells := 0, slots := 0, locals := 34 } : Room) s m args below meth c g (jQ below g o τ args s 0 0) 0 0 0 [(0, .ref a0), (1, .int v1)] [] σ
  refine r_aload_n C (x := some a0) 1 rfl 0 dX6_setWidth_0 rfl ?_
  refine r_iload_n C 2 rfl 1 dX6_setWidth_1 rfl ?_
  refine r_bipush C (v := 8) 4 rfl dX6_setWidth_2 (by decide) ?_
  refine r_bipush C (v := 40) 6 rfl dX6_setWidth_4 (by decide) ?_
  refine r_callS C mm_X6_77 st_yX6_in 9 0 0 rfl rfl rfl dX6_setWidth_6 rfl rfl (As := [.int v1, .int 8, .int 40]) rfl rfl (Nat.le_of_ble_eq_true rfl) ⟨Nat.le_of_ble_eq_true rfl, Nat.le_of_ble_eq_true rfl⟩ ⟨(Nat.le_of_ble_eq_true rfl), (Nat.le_of_ble_eq_true rfl)⟩ (fun o t h => k_X6_in l hst g _ _ _ _ o t h) h (fun w2 t1 h => ?_) (fun E t h => r_out C (fun x hx => (hE x hx).elim) (Nat.le_refl _) (Nat.le_refl _) h)
  replace h := jvI_some h
  obtain ⟨x3, rfl, h⟩ := h
  obtain ⟨j17, hj17E, h⟩ := jj_some h
  have hj17 : ∀ (x4 : Int32) (t5 : Hp), j17 x4 t5 = some (o, τ) → jW p l e ({ frames := 2, cells := 0, slots := 0, locals := 34 } : Room) s m args below meth c g (jQ below g o τ args s 0 0) 0 0 17 [(0, .ref a0), (1, .int v1)] [.int x4, .ref a0] t5 := by
    subst hj17E
    intro x4 t5 h
    refine r_callV C (ci := 6) mm_X6_84 im_yX6_goesOn se_yX6_goesOn rfl 20 0 0 rfl rfl rfl dX6_setWidth_17 rfl rfl (As := [.int x4]) rfl rfl (Nat.le_of_ble_eq_true rfl) ⟨Nat.le_of_ble_eq_true rfl, Nat.le_of_ble_eq_true rfl⟩ ⟨(Nat.le_of_ble_eq_true rfl), (Nat.le_of_ble_eq_true rfl)⟩ (fun o t h => k_X6_goesOn l hst g _ _ _ o t h) h (fun w7 t6 h => ?_) (fun E t h => r_out C (fun x hx => (hE x hx).elim) (Nat.le_refl _) (Nat.le_refl _) h)
    replace h := jvI_some h
    obtain ⟨x8, rfl, h⟩ := h
    refine r_if_ne C 25 23 rfl dX6_setWidth_20 (by decide) h (fun h => ?_) (fun h => ?_)
    · refine r_aload_n C (x := some a0) 26 rfl 0 dX6_setWidth_25 rfl ?_
      refine r_getI C 29 rfl ff_X6_40 dX6_setWidth_26 h (fun x9 h => ?_)
      refine r_istore_n C 30 rfl [(2, .int x9), (0, .ref a0), (1, .int v1)] dX6_setWidth_29 (by decide) rfl ?_
      refine r_aload_n C (x := some a0) 31 rfl 1 dX6_setWidth_30 rfl ?_
      refine r_iload_n C 32 rfl 2 dX6_setWidth_31 rfl ?_
      refine r_putI C 35 rfl fp_X6_40 dX6_setWidth_32 h (fun t10 h => ?_)
      refine r_iload_n C 36 rfl 0 dX6_setWidth_35 rfl ?_
      exact r_iret C dX6_setWidth_36 (Nat.le_refl _) (Nat.le_refl _) h
    · refine r_iconst C (v := 0) 24 rfl dX6_setWidth_23 (by decide) ?_
      exact r_iret C dX6_setWidth_24 (Nat.le_refl _) (Nat.le_refl _) h
  clear hj17E
  refine r_if_eq C 16 12 rfl dX6_setWidth_9 (by decide) h (fun h => ?_) (fun h => ?_)
  · refine r_iconst C (v := 1) 17 rfl dX6_setWidth_16 (by decide) ?_
    exact hj17 1 t1 h
  · refine r_iconst C (v := 0) 13 rfl dX6_setWidth_12 (by decide) ?_
    refine r_goto C 17 dX6_setWidth_13 (by decide) ?_
    exact hj17 0 t1 h

def J_X6_words  (a0 : Nat) (v1 : Int32) (σ : Hp) : jR := jcv σ a0 6 (J_X6_isText a0 v1 σ) (fun w2 t1 => jvI w2 (fun x3 => jj (fun (x4 : Int32) (t5 : Hp) => jcv t5 a0 6 (J_X6_goesOn a0 x4 t5) (fun w7 t6 => jvI w7 (fun x8 => (if x8 = 0 then some (.inl (some (.int 0)), t6) else jcv t6 a0 6 (J_X6_wordsOf a0 v1 t6) (fun w10 t9 => jvI w10 (fun x11 => some (.inl (some (.int x11)), t9))) (fun E t => some (.inr E, t))))) (fun E t => some (.inr E, t))) (fun j14 => (if x3 = 0 then j14 1 t1 else j14 0 t1)))) (fun E t => some (.inr E, t))
set_option maxHeartbeats 4000000 in
set_option maxRecDepth 100000 in
theorem k_X6_words (l : Launch) (hst : l.stackTraces = false) (g : jG)   (a0 : Nat) (v1 : Int32) (σ : Hp) (o : jO) (τ : Hp) (h : J_X6_words a0 v1 σ = some (o, τ)) : jMet l g yX6_words (Cond.code yX6_words cX6_words 2 (some FieldType.int) :: gT) ({ frames := 3, cells := 0, slots := 0, locals := 58 } : Room) 0 0 [.ref a0, .int v1] σ o τ := by
  refine j_start l hst (own := RX6) (by decide) rfl (Nat.le_of_ble_eq_true rfl) ?_
  intro p e s m args below meth c C hE hin
  unfold J_X6_words at h
  show jW p l e ({ frames := 3, cells := 0, slots := 0, locals := 58 } : Room) s m args below meth c g (jQ below g o τ args s 0 0) 0 0 0 [(0, .ref a0), (1, .int v1)] [] σ
  refine r_aload_n C (x := some a0) 1 rfl 0 dX6_words_0 rfl ?_
  refine r_aload_n C (x := some a0) 2 rfl 0 dX6_words_1 rfl ?_
  refine r_iload_n C 3 rfl 1 dX6_words_2 rfl ?_
  refine r_callV C (ci := 6) mm_X6_171 im_yX6_isText se_yX6_isText rfl 6 0 0 rfl rfl rfl dX6_words_3 rfl rfl (As := [.int v1]) rfl rfl (Nat.le_of_ble_eq_true rfl) ⟨Nat.le_of_ble_eq_true rfl, Nat.le_of_ble_eq_true rfl⟩ ⟨(Nat.le_of_ble_eq_true rfl), (Nat.le_of_ble_eq_true rfl)⟩ (fun o t h => k_X6_isText l hst g _ _ _ o t h) h (fun w2 t1 h => ?_) (fun E t h => r_out C (fun x hx => (hE x hx).elim) (Nat.le_refl _) (Nat.le_refl _) h)
  replace h := jvI_some h
  obtain ⟨x3, rfl, h⟩ := h
  obtain ⟨j14, hj14E, h⟩ := jj_some h
  have hj14 : ∀ (x4 : Int32) (t5 : Hp), j14 x4 t5 = some (o, τ) → jW p l e ({ frames := 3, cells := 0, slots := 0, locals := 58 } : Room) s m args below meth c g (jQ below g o τ args s 0 0) 0 0 14 [(0, .ref a0), (1, .int v1)] [.int x4, .ref a0] t5 := by
    subst hj14E
    intro x4 t5 h
    refine r_callV C (ci := 6) mm_X6_84 im_yX6_goesOn se_yX6_goesOn rfl 17 0 0 rfl rfl rfl dX6_words_14 rfl rfl (As := [.int x4]) rfl rfl (Nat.le_of_ble_eq_true rfl) ⟨Nat.le_of_ble_eq_true rfl, Nat.le_of_ble_eq_true rfl⟩ ⟨(Nat.le_of_ble_eq_true rfl), (Nat.le_of_ble_eq_true rfl)⟩ (fun o t h => k_X6_goesOn l hst g _ _ _ o t h) h (fun w7 t6 h => ?_) (fun E t h => r_out C (fun x hx => (hE x hx).elim) (Nat.le_refl _) (Nat.le_refl _) h)
    replace h := jvI_some h
    obtain ⟨x8, rfl, h⟩ := h
    refine r_if_eq C 28 20 rfl dX6_words_17 (by decide) h (fun h => ?_) (fun h => ?_)
    · refine r_iconst C (v := 0) 29 rfl dX6_words_28 (by decide) ?_
      exact r_iret C dX6_words_29 (Nat.le_refl _) (Nat.le_refl _) h
    · refine r_aload_n C (x := some a0) 21 rfl 0 dX6_words_20 rfl ?_
      refine r_iload_n C 22 rfl 1 dX6_words_21 rfl ?_
      refine r_callV C (ci := 6) mm_X6_165 im_yX6_wordsOf se_yX6_wordsOf rfl 25 0 0 rfl rfl rfl dX6_words_22 rfl rfl (As := [.int v1]) rfl rfl (Nat.le_of_ble_eq_true rfl) ⟨Nat.le_of_ble_eq_true rfl, Nat.le_of_ble_eq_true rfl⟩ ⟨(Nat.le_of_ble_eq_true rfl), (Nat.le_of_ble_eq_true rfl)⟩ (fun o t h => k_X6_wordsOf l hst g _ _ _ o t h) h (fun w10 t9 h => ?_) (fun E t h => r_out C (fun x hx => (hE x hx).elim) (Nat.le_refl _) (Nat.le_refl _) h)
      replace h := jvI_some h
      obtain ⟨x11, rfl, h⟩ := h
      refine r_goto C 29 dX6_words_25 (by decide) ?_
      exact r_iret C dX6_words_29 (Nat.le_refl _) (Nat.le_refl _) h
  clear hj14E
  refine r_if_eq C 13 9 rfl dX6_words_6 (by decide) h (fun h => ?_) (fun h => ?_)
  · refine r_iconst C (v := 1) 14 rfl dX6_words_13 (by decide) ?_
    exact hj14 1 t1 h
  · refine r_iconst C (v := 0) 10 rfl dX6_words_9 (by decide) ?_
    refine r_goto C 14 dX6_words_10 (by decide) ?_
    exact hj14 0 t1 h

def J_X6_isWord  (a0 : Nat) (v1 : Int32) (v2 : Int32) (σ : Hp) : jR := jcv σ a0 6 (J_X6_isText a0 v1 σ) (fun w2 t1 => jvI w2 (fun x3 => (if x3 = 0 then jrt .boolean 0 t1 else jcv t1 a0 6 (J_X6_wordsOf a0 v1 t1) (fun w5 t4 => jvI w5 (fun x6 => jcs (J_X6_in v2 0 (x6 - 1) t4) (fun w8 t7 => jvI w8 (fun x9 => (if x9 = 0 then jrt .boolean 0 t7 else jrt .boolean 1 t7))) (fun E t => some (.inr E, t)))) (fun E t => some (.inr E, t))))) (fun E t => some (.inr E, t))
set_option maxHeartbeats 4000000 in
set_option maxRecDepth 100000 in
theorem k_X6_isWord (l : Launch) (hst : l.stackTraces = false) (g : jG)   (a0 : Nat) (v1 : Int32) (v2 : Int32) (σ : Hp) (o : jO) (τ : Hp) (h : J_X6_isWord a0 v1 v2 σ = some (o, τ)) : jMet l g yX6_isWord (Cond.code yX6_isWord cX6_isWord 3 (some FieldType.boolean) :: gT) ({ frames := 3, cells := 0, slots := 0, locals := 58 } : Room) 0 0 [.ref a0, .int v1, .int v2] σ o τ := by
  refine j_start l hst (own := RX6) (by decide) rfl (Nat.le_of_ble_eq_true rfl) ?_
  intro p e s m args below meth c C hE hin
  unfold J_X6_isWord at h
  show jW p l e ({ frames := 3, cells := 0, slots := 0, locals := 58 } : Room) s m args below meth c g (jQ below g o τ args s 0 0) 0 0 0 [(0, .ref a0), (1, .int v1), (2, .int v2)] [] σ
  refine r_aload_n C (x := some a0) 1 rfl 0 dX6_isWord_0 rfl ?_
  refine r_iload_n C 2 rfl 1 dX6_isWord_1 rfl ?_
  refine r_callV C (ci := 6) mm_X6_171 im_yX6_isText se_yX6_isText rfl 5 0 0 rfl rfl rfl dX6_isWord_2 rfl rfl (As := [.int v1]) rfl rfl (Nat.le_of_ble_eq_true rfl) ⟨Nat.le_of_ble_eq_true rfl, Nat.le_of_ble_eq_true rfl⟩ ⟨(Nat.le_of_ble_eq_true rfl), (Nat.le_of_ble_eq_true rfl)⟩ (fun o t h => k_X6_isText l hst g _ _ _ o t h) h (fun w2 t1 h => ?_) (fun E t h => r_out C (fun x hx => (hE x hx).elim) (Nat.le_refl _) (Nat.le_refl _) h)
  replace h := jvI_some h
  obtain ⟨x3, rfl, h⟩ := h
  refine r_if_eq C 27 8 rfl dX6_isWord_5 (by decide) h (fun h => ?_) (fun h => ?_)
  · refine r_iconst C (v := 0) 28 rfl dX6_isWord_27 (by decide) ?_
    exact r_zret C (fun _ => rfl) dX6_isWord_28 (Nat.le_refl _) (Nat.le_refl _) h
  · refine r_iload_n C 9 rfl 2 dX6_isWord_8 rfl ?_
    refine r_iconst C (v := 0) 10 rfl dX6_isWord_9 (by decide) ?_
    refine r_aload_n C (x := some a0) 11 rfl 0 dX6_isWord_10 rfl ?_
    refine r_iload_n C 12 rfl 1 dX6_isWord_11 rfl ?_
    refine r_callV C (ci := 6) mm_X6_165 im_yX6_wordsOf se_yX6_wordsOf rfl 15 0 0 rfl rfl rfl dX6_isWord_12 rfl rfl (As := [.int v1]) rfl rfl (Nat.le_of_ble_eq_true rfl) ⟨Nat.le_of_ble_eq_true rfl, Nat.le_of_ble_eq_true rfl⟩ ⟨(Nat.le_of_ble_eq_true rfl), (Nat.le_of_ble_eq_true rfl)⟩ (fun o t h => k_X6_wordsOf l hst g _ _ _ o t h) h (fun w5 t4 h => ?_) (fun E t h => r_out C (fun x hx => (hE x hx).elim) (Nat.le_refl _) (Nat.le_refl _) h)
    replace h := jvI_some h
    obtain ⟨x6, rfl, h⟩ := h
    refine r_iconst C (v := 1) 16 rfl dX6_isWord_15 (by decide) ?_
    refine r_isub C 17 rfl dX6_isWord_16 ?_
    refine r_callS C mm_X6_77 st_yX6_in 20 0 0 rfl rfl rfl dX6_isWord_17 rfl rfl (As := [.int v2, .int 0, .int (x6 - 1)]) rfl rfl (Nat.le_of_ble_eq_true rfl) ⟨Nat.le_of_ble_eq_true rfl, Nat.le_of_ble_eq_true rfl⟩ ⟨(Nat.le_of_ble_eq_true rfl), (Nat.le_of_ble_eq_true rfl)⟩ (fun o t h => k_X6_in l hst g _ _ _ _ o t h) h (fun w8 t7 h => ?_) (fun E t h => r_out C (fun x hx => (hE x hx).elim) (Nat.le_refl _) (Nat.le_refl _) h)
    replace h := jvI_some h
    obtain ⟨x9, rfl, h⟩ := h
    refine r_if_eq C 27 23 rfl dX6_isWord_20 (by decide) h (fun h => ?_) (fun h => ?_)
    · refine r_iconst C (v := 0) 28 rfl dX6_isWord_27 (by decide) ?_
      exact r_zret C (fun _ => rfl) dX6_isWord_28 (Nat.le_refl _) (Nat.le_refl _) h
    · refine r_iconst C (v := 1) 24 rfl dX6_isWord_23 (by decide) ?_
      refine r_goto C 28 dX6_isWord_24 (by decide) ?_
      exact r_zret C (fun _ => rfl) dX6_isWord_28 (Nat.le_refl _) (Nat.le_refl _) h

def J_X6_length  (a0 : Nat) (v1 : Int32) (v2 : Int32) (σ : Hp) : jR := jcv σ a0 6 (J_X6_isWord a0 v1 v2 σ) (fun w2 t1 => jvI w2 (fun x3 => jj (fun (x4 : Int32) (t5 : Hp) => jcv t5 a0 6 (J_X6_goesOn a0 x4 t5) (fun w7 t6 => jvI w7 (fun x8 => (if x8 = 0 then some (.inl (some (.int 0)), t6) else jcv t6 a0 6 (J_X6_translates a0 v1 v2 t6) (fun w10 t9 => jvV w10 (jgI t9 a0 6 23 (fun x11 => some (.inl (some (.int x11)), t9)))) (fun E t => some (.inr E, t))))) (fun E t => some (.inr E, t))) (fun j15 => (if x3 = 0 then j15 1 t1 else j15 0 t1)))) (fun E t => some (.inr E, t))
set_option maxHeartbeats 4000000 in
set_option maxRecDepth 100000 in
theorem k_X6_length (l : Launch) (hst : l.stackTraces = false) (g : jG)   (a0 : Nat) (v1 : Int32) (v2 : Int32) (σ : Hp) (o : jO) (τ : Hp) (h : J_X6_length a0 v1 v2 σ = some (o, τ)) : jMet l g yX6_length (Cond.code yX6_length cX6_length 3 (some FieldType.int) :: gT) ({ frames := 7, cells := 0, slots := 0, locals := 157 } : Room) 0 0 [.ref a0, .int v1, .int v2] σ o τ := by
  refine j_start l hst (own := RX6) (by decide) rfl (Nat.le_of_ble_eq_true rfl) ?_
  intro p e s m args below meth c C hE hin
  unfold J_X6_length at h
  show jW p l e ({ frames := 7, cells := 0, slots := 0, locals := 157 } : Room) s m args below meth c g (jQ below g o τ args s 0 0) 0 0 0 [(0, .ref a0), (1, .int v1), (2, .int v2)] [] σ
  refine r_aload_n C (x := some a0) 1 rfl 0 dX6_length_0 rfl ?_
  refine r_aload_n C (x := some a0) 2 rfl 0 dX6_length_1 rfl ?_
  refine r_iload_n C 3 rfl 1 dX6_length_2 rfl ?_
  refine r_iload_n C 4 rfl 2 dX6_length_3 rfl ?_
  refine r_callV C (ci := 6) mm_X6_174 im_yX6_isWord se_yX6_isWord rfl 7 0 0 rfl rfl rfl dX6_length_4 rfl rfl (As := [.int v1, .int v2]) rfl rfl (Nat.le_of_ble_eq_true rfl) ⟨Nat.le_of_ble_eq_true rfl, Nat.le_of_ble_eq_true rfl⟩ ⟨(Nat.le_of_ble_eq_true rfl), (Nat.le_of_ble_eq_true rfl)⟩ (fun o t h => k_X6_isWord l hst g _ _ _ _ o t h) h (fun w2 t1 h => ?_) (fun E t h => r_out C (fun x hx => (hE x hx).elim) (Nat.le_refl _) (Nat.le_refl _) h)
  replace h := jvI_some h
  obtain ⟨x3, rfl, h⟩ := h
  obtain ⟨j15, hj15E, h⟩ := jj_some h
  have hj15 : ∀ (x4 : Int32) (t5 : Hp), j15 x4 t5 = some (o, τ) → jW p l e ({ frames := 7, cells := 0, slots := 0, locals := 157 } : Room) s m args below meth c g (jQ below g o τ args s 0 0) 0 0 15 [(0, .ref a0), (1, .int v1), (2, .int v2)] [.int x4, .ref a0] t5 := by
    subst hj15E
    intro x4 t5 h
    refine r_callV C (ci := 6) mm_X6_84 im_yX6_goesOn se_yX6_goesOn rfl 18 0 0 rfl rfl rfl dX6_length_15 rfl rfl (As := [.int x4]) rfl rfl (Nat.le_of_ble_eq_true rfl) ⟨Nat.le_of_ble_eq_true rfl, Nat.le_of_ble_eq_true rfl⟩ ⟨(Nat.le_of_ble_eq_true rfl), (Nat.le_of_ble_eq_true rfl)⟩ (fun o t h => k_X6_goesOn l hst g _ _ _ o t h) h (fun w7 t6 h => ?_) (fun E t h => r_out C (fun x hx => (hE x hx).elim) (Nat.le_refl _) (Nat.le_refl _) h)
    replace h := jvI_some h
    obtain ⟨x8, rfl, h⟩ := h
    refine r_if_ne C 23 21 rfl dX6_length_18 (by decide) h (fun h => ?_) (fun h => ?_)
    · refine r_aload_n C (x := some a0) 24 rfl 0 dX6_length_23 rfl ?_
      refine r_iload_n C 25 rfl 1 dX6_length_24 rfl ?_
      refine r_iload_n C 26 rfl 2 dX6_length_25 rfl ?_
      refine r_callV C (ci := 6) mm_X6_168 im_yX6_translates se_yX6_translates rfl 29 0 0 rfl rfl rfl dX6_length_26 rfl rfl (As := [.int v1, .int v2]) rfl rfl (Nat.le_of_ble_eq_true rfl) ⟨Nat.le_of_ble_eq_true rfl, Nat.le_of_ble_eq_true rfl⟩ ⟨(Nat.le_of_ble_eq_true rfl), (Nat.le_of_ble_eq_true rfl)⟩ (fun o t h => k_X6_translates l hst g _ _ _ _ o t h) h (fun w10 t9 h => ?_) (fun E t h => r_out C (fun x hx => (hE x hx).elim) (Nat.le_refl _) (Nat.le_refl _) h)
      replace h := jvV_some h
      obtain ⟨rfl, h⟩ := h
      refine r_aload_n C (x := some a0) 30 rfl 0 dX6_length_29 rfl ?_
      refine r_getI C 33 rfl ff_X6_155 dX6_length_30 h (fun x11 h => ?_)
      exact r_iret C dX6_length_33 (Nat.le_refl _) (Nat.le_refl _) h
    · refine r_iconst C (v := 0) 22 rfl dX6_length_21 (by decide) ?_
      exact r_iret C dX6_length_22 (Nat.le_refl _) (Nat.le_refl _) h
  clear hj15E
  refine r_if_eq C 14 10 rfl dX6_length_7 (by decide) h (fun h => ?_) (fun h => ?_)
  · refine r_iconst C (v := 1) 15 rfl dX6_length_14 (by decide) ?_
    exact hj15 1 t1 h
  · refine r_iconst C (v := 0) 11 rfl dX6_length_10 (by decide) ?_
    refine r_goto C 15 dX6_length_11 (by decide) ?_
    exact hj15 0 t1 h

def J_X6_cellOf  (a0 : Nat) (v1 : Int32) (v2 : Int32) (v3 : Int32) (σ : Hp) : jR := jcv σ a0 6 (J_X6_isWord a0 v1 v2 σ) (fun w2 t1 => jvI w2 (fun x3 => jj (fun (t4 : Hp) => jj (fun (x5 : Int32) (t6 : Hp) => jcv t6 a0 6 (J_X6_goesOn a0 x5 t6) (fun w8 t7 => jvI w8 (fun x9 => (if x9 = 0 then some (.inl (some (.int 0)), t7) else jgR t7 a0 6 22 (fun r10 => jdr r10 (fun b11 => jaI t7 b11 v3 (fun x12 => some (.inl (some (.int x12)), t7))))))) (fun E t => some (.inr E, t))) (fun j48 => (if x3 = 0 then j48 1 t4 else jgI t4 a0 6 23 (fun x13 => jcs (J_X6_in v3 0 (x13 - 1) t4) (fun w15 t14 => jvI w15 (fun x16 => (if x16 = 0 then j48 2 t14 else j48 0 t14))) (fun E t => some (.inr E, t)))))) (fun j19 => (if x3 = 0 then j19 t1 else jcv t1 a0 6 (J_X6_translates a0 v1 v2 t1) (fun w18 t17 => jvV w18 (j19 t17)) (fun E t => some (.inr E, t)))))) (fun E t => some (.inr E, t))
set_option maxHeartbeats 4000000 in
set_option maxRecDepth 100000 in
theorem k_X6_cellOf (l : Launch) (hst : l.stackTraces = false) (g : jG)   (a0 : Nat) (v1 : Int32) (v2 : Int32) (v3 : Int32) (σ : Hp) (o : jO) (τ : Hp) (h : J_X6_cellOf a0 v1 v2 v3 σ = some (o, τ)) : jMet l g yX6_cellOf (Cond.code yX6_cellOf cX6_cellOf 5 (some FieldType.int) :: gT) ({ frames := 7, cells := 0, slots := 0, locals := 157 } : Room) 0 0 [.ref a0, .int v1, .int v2, .int v3] σ o τ := by
  refine j_start l hst (own := RX6) (by decide) rfl (Nat.le_of_ble_eq_true rfl) ?_
  intro p e s m args below meth c C hE hin
  unfold J_X6_cellOf at h
  show jW p l e ({ frames := 7, cells := 0, slots := 0, locals := 157 } : Room) s m args below meth c g (jQ below g o τ args s 0 0) 0 0 0 [(0, .ref a0), (1, .int v1), (2, .int v2), (3, .int v3)] [] σ
  refine r_aload_n C (x := some a0) 1 rfl 0 dX6_cellOf_0 rfl ?_
  refine r_iload_n C 2 rfl 1 dX6_cellOf_1 rfl ?_
  refine r_iload_n C 3 rfl 2 dX6_cellOf_2 rfl ?_
  refine r_callV C (ci := 6) mm_X6_174 im_yX6_isWord se_yX6_isWord rfl 6 0 0 rfl rfl rfl dX6_cellOf_3 rfl rfl (As := [.int v1, .int v2]) rfl rfl (Nat.le_of_ble_eq_true rfl) ⟨Nat.le_of_ble_eq_true rfl, Nat.le_of_ble_eq_true rfl⟩ ⟨(Nat.le_of_ble_eq_true rfl), (Nat.le_of_ble_eq_true rfl)⟩ (fun o t h => k_X6_isWord l hst g _ _ _ _ o t h) h (fun w2 t1 h => ?_) (fun E t h => r_out C (fun x hx => (hE x hx).elim) (Nat.le_refl _) (Nat.le_refl _) h)
  replace h := jvI_some h
  obtain ⟨x3, rfl, h⟩ := h
  refine r_istore C 8 rfl [(4, .int x3), (0, .ref a0), (1, .int v1), (2, .int v2), (3, .int v3)] dX6_cellOf_6 (by decide) rfl ?_
  refine r_iload C 10 rfl 0 dX6_cellOf_8 rfl ?_
  obtain ⟨j19, hj19E, h⟩ := jj_some h
  have hj19 : ∀ (t4 : Hp), j19 t4 = some (o, τ) → jW p l e ({ frames := 7, cells := 0, slots := 0, locals := 157 } : Room) s m args below meth c g (jQ below g o τ args s 0 0) 0 0 19 [(0, .ref a0), (3, .int v3), (4, .int x3)] [] t4 := by
    subst hj19E
    intro t4 h
    refine r_aload_n C (x := some a0) 20 rfl 0 dX6_cellOf_19 rfl ?_
    refine r_iload C 22 rfl 2 dX6_cellOf_20 rfl ?_
    obtain ⟨j48, hj48E, h⟩ := jj_some h
    have hj48 : ∀ (x5 : Int32) (t6 : Hp), j48 x5 t6 = some (o, τ) → jW p l e ({ frames := 7, cells := 0, slots := 0, locals := 157 } : Room) s m args below meth c g (jQ below g o τ args s 0 0) 0 0 48 [(0, .ref a0), (3, .int v3)] [.int x5, .ref a0] t6 := by
      subst hj48E
      intro x5 t6 h
      refine r_callV C (ci := 6) mm_X6_84 im_yX6_goesOn se_yX6_goesOn rfl 51 0 0 rfl rfl rfl dX6_cellOf_48 rfl rfl (As := [.int x5]) rfl rfl (Nat.le_of_ble_eq_true rfl) ⟨Nat.le_of_ble_eq_true rfl, Nat.le_of_ble_eq_true rfl⟩ ⟨(Nat.le_of_ble_eq_true rfl), (Nat.le_of_ble_eq_true rfl)⟩ (fun o t h => k_X6_goesOn l hst g _ _ _ o t h) h (fun w8 t7 h => ?_) (fun E t h => r_out C (fun x hx => (hE x hx).elim) (Nat.le_refl _) (Nat.le_refl _) h)
      replace h := jvI_some h
      obtain ⟨x9, rfl, h⟩ := h
      refine r_if_eq C 63 54 rfl dX6_cellOf_51 (by decide) h (fun h => ?_) (fun h => ?_)
      · refine r_iconst C (v := 0) 64 rfl dX6_cellOf_63 (by decide) ?_
        exact r_iret C dX6_cellOf_64 (Nat.le_refl _) (Nat.le_refl _) h
      · refine r_aload_n C (x := some a0) 55 rfl 0 dX6_cellOf_54 rfl ?_
        refine r_getR C 58 rfl ff_X6_62 dX6_cellOf_55 h (fun r10 h => ?_)
        refine r_iload_n C 59 rfl 1 dX6_cellOf_58 rfl ?_
        replace h := jdr_some h
        obtain ⟨b11, hr, h⟩ := h
        rw [hr]
        refine r_iald C 60 rfl dX6_cellOf_59 h (fun x12 h => ?_)
        refine r_goto C 64 dX6_cellOf_60 (by decide) ?_
        exact r_iret C dX6_cellOf_64 (Nat.le_refl _) (Nat.le_refl _) h
    clear hj48E
    refine r_if_ne C 29 25 rfl dX6_cellOf_22 (by decide) h (fun h => ?_) (fun h => ?_)
    · refine r_iload_n C 30 rfl 1 dX6_cellOf_29 rfl ?_
      refine r_iconst C (v := 0) 31 rfl dX6_cellOf_30 (by decide) ?_
      refine r_aload_n C (x := some a0) 32 rfl 0 dX6_cellOf_31 rfl ?_
      refine r_getI C 35 rfl ff_X6_155 dX6_cellOf_32 h (fun x13 h => ?_)
      refine r_iconst C (v := 1) 36 rfl dX6_cellOf_35 (by decide) ?_
      refine r_isub C 37 rfl dX6_cellOf_36 ?_
      refine r_callS C mm_X6_77 st_yX6_in 40 0 0 rfl rfl rfl dX6_cellOf_37 rfl rfl (As := [.int v3, .int 0, .int (x13 - 1)]) rfl rfl (Nat.le_of_ble_eq_true rfl) ⟨Nat.le_of_ble_eq_true rfl, Nat.le_of_ble_eq_true rfl⟩ ⟨(Nat.le_of_ble_eq_true rfl), (Nat.le_of_ble_eq_true rfl)⟩ (fun o t h => k_X6_in l hst g _ _ _ _ o t h) h (fun w15 t14 h => ?_) (fun E t h => r_out C (fun x hx => (hE x hx).elim) (Nat.le_refl _) (Nat.le_refl _) h)
      replace h := jvI_some h
      obtain ⟨x16, rfl, h⟩ := h
      refine r_if_ne C 47 43 rfl dX6_cellOf_40 (by decide) h (fun h => ?_) (fun h => ?_)
      · refine r_iconst C (v := 0) 48 rfl dX6_cellOf_47 (by decide) ?_
        refine r_lv [0, 1] rfl ?_
        exact hj48 0 t14 h
      · refine r_iconst C (v := 2) 44 rfl dX6_cellOf_43 (by decide) ?_
        refine r_goto C 48 dX6_cellOf_44 (by decide) ?_
        refine r_lv [0, 1] rfl ?_
        exact hj48 2 t14 h
    · refine r_iconst C (v := 1) 26 rfl dX6_cellOf_25 (by decide) ?_
      refine r_goto C 48 dX6_cellOf_26 (by decide) ?_
      refine r_lv [0, 1] rfl ?_
      exact hj48 1 t4 h
  clear hj19E
  refine r_if_eq C 19 13 rfl dX6_cellOf_10 (by decide) h (fun h => ?_) (fun h => ?_)
  · refine r_lv [1, 4, 0] rfl ?_
    exact hj19 t1 h
  · refine r_aload_n C (x := some a0) 14 rfl 1 dX6_cellOf_13 rfl ?_
    refine r_iload_n C 15 rfl 2 dX6_cellOf_14 rfl ?_
    refine r_iload_n C 16 rfl 3 dX6_cellOf_15 rfl ?_
    refine r_callV C (ci := 6) mm_X6_168 im_yX6_translates se_yX6_translates rfl 19 0 0 rfl rfl rfl dX6_cellOf_16 rfl rfl (As := [.int v1, .int v2]) rfl rfl (Nat.le_of_ble_eq_true rfl) ⟨Nat.le_of_ble_eq_true rfl, Nat.le_of_ble_eq_true rfl⟩ ⟨(Nat.le_of_ble_eq_true rfl), (Nat.le_of_ble_eq_true rfl)⟩ (fun o t h => k_X6_translates l hst g _ _ _ _ o t h) h (fun w18 t17 h => ?_) (fun E t h => r_out C (fun x hx => (hE x hx).elim) (Nat.le_refl _) (Nat.le_refl _) h)
    replace h := jvV_some h
    obtain ⟨rfl, h⟩ := h
    refine r_lv [1, 4, 0] rfl ?_
    exact hj19 t17 h

def J_X6_addsCell  (a0 : Nat) (v1 : Int32) (σ : Hp) : jR := jgR σ a0 6 25 (fun r1 => jgI σ a0 6 27 (fun x2 => jgR σ a0 6 26 (fun r3 => jgI σ a0 6 27 (fun x4 => jdr r3 (fun b5 => jaI σ b5 (x4 - 1) (fun x6 => jdr r1 (fun b7 => jsI σ b7 ((40 * (x2 - 1)) + x6) v1 (fun t8 => jgR t8 a0 6 26 (fun r9 => jgI t8 a0 6 27 (fun x10 => jdr r9 (fun b11 => jaI t8 b11 (x10 - 1) (fun x12 => jsI t8 b11 (x10 - 1) (x12 + 1) (fun t13 => some (.inl none, t13))))))))))))))
set_option maxHeartbeats 4000000 in
set_option maxRecDepth 100000 in
theorem k_X6_addsCell (l : Launch) (hst : l.stackTraces = false) (g : jG)   (a0 : Nat) (v1 : Int32) (σ : Hp) (o : jO) (τ : Hp) (h : J_X6_addsCell a0 v1 σ = some (o, τ)) : jMet l g yX6_addsCell (Cond.code yX6_addsCell cX6_addsCell 2 none :: gT) ({ frames := 1, cells := 0, slots := 0, locals := 12 } : Room) 0 0 [.ref a0, .int v1] σ o τ := by
  refine j_start l hst (own := RX6) (by decide) rfl (Nat.le_of_ble_eq_true rfl) ?_
  intro p e s m args below meth c C hE hin
  unfold J_X6_addsCell at h
  show jW p l e ({ frames := 1, cells := 0, slots := 0, locals := 12 } : Room) s m args below meth c g (jQ below g o τ args s 0 0) 0 0 0 [(0, .ref a0), (1, .int v1)] [] σ
  refine r_aload_n C (x := some a0) 1 rfl 0 dX6_addsCell_0 rfl ?_
  refine r_getR C 4 rfl ff_X6_68 dX6_addsCell_1 h (fun r1 h => ?_)
  refine r_bipush C (v := 40) 6 rfl dX6_addsCell_4 (by decide) ?_
  refine r_aload_n C (x := some a0) 7 rfl 0 dX6_addsCell_6 rfl ?_
  refine r_getI C 10 rfl ff_X6_177 dX6_addsCell_7 h (fun x2 h => ?_)
  refine r_iconst C (v := 1) 11 rfl dX6_addsCell_10 (by decide) ?_
  refine r_isub C 12 rfl dX6_addsCell_11 ?_
  refine r_imul C 13 rfl dX6_addsCell_12 ?_
  refine r_aload_n C (x := some a0) 14 rfl 0 dX6_addsCell_13 rfl ?_
  refine r_getR C 17 rfl ff_X6_71 dX6_addsCell_14 h (fun r3 h => ?_)
  refine r_aload_n C (x := some a0) 18 rfl 0 dX6_addsCell_17 rfl ?_
  refine r_getI C 21 rfl ff_X6_177 dX6_addsCell_18 h (fun x4 h => ?_)
  refine r_iconst C (v := 1) 22 rfl dX6_addsCell_21 (by decide) ?_
  refine r_isub C 23 rfl dX6_addsCell_22 ?_
  replace h := jdr_some h
  obtain ⟨b5, hr, h⟩ := h
  rw [hr]
  refine r_iald C 24 rfl dX6_addsCell_23 h (fun x6 h => ?_)
  refine r_iadd C 25 rfl dX6_addsCell_24 ?_
  refine r_iload_n C 26 rfl 1 dX6_addsCell_25 rfl ?_
  replace h := jdr_some h
  obtain ⟨b7, hr, h⟩ := h
  rw [hr]
  refine r_iast C 27 rfl dX6_addsCell_26 h (fun t8 h => ?_)
  refine r_aload_n C (x := some a0) 28 rfl 0 dX6_addsCell_27 rfl ?_
  refine r_getR C 31 rfl ff_X6_71 dX6_addsCell_28 h (fun r9 h => ?_)
  refine r_aload_n C (x := some a0) 32 rfl 0 dX6_addsCell_31 rfl ?_
  refine r_getI C 35 rfl ff_X6_177 dX6_addsCell_32 h (fun x10 h => ?_)
  refine r_iconst C (v := 1) 36 rfl dX6_addsCell_35 (by decide) ?_
  refine r_isub C 37 rfl dX6_addsCell_36 ?_
  replace h := jdr_some h
  obtain ⟨b11, hr, h⟩ := h
  rw [hr]
  refine r_dup2 C 38 rfl dX6_addsCell_37 rfl rfl ?_
  refine r_iald C 39 rfl dX6_addsCell_38 h (fun x12 h => ?_)
  refine r_iconst C (v := 1) 40 rfl dX6_addsCell_39 (by decide) ?_
  refine r_iadd C 41 rfl dX6_addsCell_40 ?_
  refine r_iast C 42 rfl dX6_addsCell_41 h (fun t13 h => ?_)
  exact r_vret C dX6_addsCell_42 (Nat.le_refl _) (Nat.le_refl _) h

def J_X6_begins  (a0 : Nat) (σ : Hp) : jR := jgR σ a0 6 26 (fun r1 => jgI σ a0 6 27 (fun x2 => jdr r1 (fun b3 => jsI σ b3 x2 0 (fun t4 => jgI t4 a0 6 27 (fun x5 => jpI t4 a0 6 27 (x5 + 1) (fun t6 => some (.inl none, t6)))))))
set_option maxHeartbeats 4000000 in
set_option maxRecDepth 100000 in
theorem k_X6_begins (l : Launch) (hst : l.stackTraces = false) (g : jG)   (a0 : Nat) (σ : Hp) (o : jO) (τ : Hp) (h : J_X6_begins a0 σ = some (o, τ)) : jMet l g yX6_begins (Cond.code yX6_begins cX6_begins 1 none :: gT) ({ frames := 1, cells := 0, slots := 0, locals := 12 } : Room) 0 0 [.ref a0] σ o τ := by
  refine j_start l hst (own := RX6) (by decide) rfl (Nat.le_of_ble_eq_true rfl) ?_
  intro p e s m args below meth c C hE hin
  unfold J_X6_begins at h
  show jW p l e ({ frames := 1, cells := 0, slots := 0, locals := 12 } : Room) s m args below meth c g (jQ below g o τ args s 0 0) 0 0 0 [(0, .ref a0)] [] σ
  refine r_aload_n C (x := some a0) 1 rfl 0 dX6_begins_0 rfl ?_
  refine r_getR C 4 rfl ff_X6_71 dX6_begins_1 h (fun r1 h => ?_)
  refine r_aload_n C (x := some a0) 5 rfl 0 dX6_begins_4 rfl ?_
  refine r_getI C 8 rfl ff_X6_177 dX6_begins_5 h (fun x2 h => ?_)
  refine r_iconst C (v := 0) 9 rfl dX6_begins_8 (by decide) ?_
  replace h := jdr_some h
  obtain ⟨b3, hr, h⟩ := h
  rw [hr]
  refine r_iast C 10 rfl dX6_begins_9 h (fun t4 h => ?_)
  refine r_aload_n C (x := some a0) 11 rfl 0 dX6_begins_10 rfl ?_
  refine r_dup C 12 rfl dX6_begins_11 rfl ?_
  refine r_getI C 15 rfl ff_X6_177 dX6_begins_12 h (fun x5 h => ?_)
  refine r_iconst C (v := 1) 16 rfl dX6_begins_15 (by decide) ?_
  refine r_iadd C 17 rfl dX6_begins_16 ?_
  refine r_putI C 20 rfl fp_X6_177 dX6_begins_17 h (fun t6 h => ?_)
  exact r_vret C dX6_begins_20 (Nat.le_refl _) (Nat.le_refl _) h

def J_X6_breaks_L107b  (k155 : Nat → Int32 → Int32 → Int32 → Int32 → Int32 → Hp → jR) (rc : Nat → Int32 → Int32 → Int32 → Int32 → Int32 → Int32 → Hp → jR) (a0 : Nat) (v1 : Int32) (v2 : Int32) (v3 : Int32) (v4 : Int32) (v5 : Int32) (v7 : Int32) (t0 : Hp) : jR := jgI t0 a0 6 23 (fun x13 => (if x13 ≤ v7 then k155 a0 v1 v2 v3 v4 v5 t0 else jgR t0 a0 6 26 (fun r14 => jgI t0 a0 6 27 (fun x15 => jdr r14 (fun b16 => jaI t0 b16 (x15 - 1) (fun x17 => jgI t0 a0 6 15 (fun x18 => jj (fun (t19 : Hp) => jgR t19 a0 6 22 (fun r20 => jdr r20 (fun b21 => jaI t19 b21 v7 (fun x22 => jcv t19 a0 6 (J_X6_addsCell a0 x22 t19) (fun w24 t23 => jvV w24 (rc a0 v1 v2 v3 v4 v5 (v7 + 1) t23)) (fun E t => some (.inr E, t)))))) (fun j138 => (if x17 = x18 then jcv t0 a0 6 (J_X6_begins a0 t0) (fun w26 t25 => jvV w26 (j138 t25)) (fun E t => some (.inr E, t)) else j138 t0)))))))))
def J_X6_breaks_L107  (k155 : Nat → Int32 → Int32 → Int32 → Int32 → Int32 → Hp → jR) : Nat → Nat → Int32 → Int32 → Int32 → Int32 → Int32 → Int32 → Hp → jR
  | 0 => fun _ _ _ _ _ _ _ _ => none
  | n + 1 => J_X6_breaks_L107b  k155 (J_X6_breaks_L107  k155 n)
def J_X6_breaks_L17b   (rc : Nat → Int32 → Int32 → Int32 → Int32 → Int32 → Hp → jR) (a0 : Nat) (v1 : Int32) (v2 : Int32) (v3 : Int32) (v4 : Int32) (v5 : Int32) (t0 : Hp) : jR := (if v4 ≤ v5 then some (.inl (some (.int v3)), t0) else jcv t0 a0 6 (J_X6_translates a0 v1 v5 t0) (fun w6 t5 => jvV w6 (jgI t5 a0 6 27 (fun x7 => jj (fun (x8 : Int32) (t9 : Hp) => jj (fun (t10 : Hp) => jj (fun (x11 : Int32) (t12 : Hp) => J_X6_breaks_L107  (fun (x27 : Nat) (x28 : Int32) (x29 : Int32) (x30 : Int32) (x31 : Int32) (x32 : Int32) (t33 : Hp) => rc x27 x28 x29 x30 x31 (x32 + 1) t33) jN a0 v1 v2 x11 v4 v5 0 t12) (fun j103 => (if v5 = v2 then jgI t10 a0 6 27 (fun x34 => j103 (x34 - 1) t10) else j103 v3 t10))) (fun j87 => (if x8 = 0 then jcv t9 a0 6 (J_X6_begins a0 t9) (fun w36 t35 => jvV w36 (j87 t35)) (fun E t => some (.inr E, t)) else jcv t9 a0 6 (J_X6_addsCell a0 0 t9) (fun w38 t37 => jvV w38 (j87 t37)) (fun E t => some (.inr E, t))))) (fun j68 => jj (fun (t39 : Hp) => j68 0 t39) (fun j67 => (if x7 ≤ 0 then j67 t5 else jgR t5 a0 6 26 (fun r40 => jgI t5 a0 6 27 (fun x41 => jdr r40 (fun b42 => jaI t5 b42 (x41 - 1) (fun x43 => jgI t5 a0 6 23 (fun x44 => jgI t5 a0 6 15 (fun x45 => (if x45 < ((x43 + 1) + x44) then j67 t5 else j68 1 t5))))))))))))) (fun E t => some (.inr E, t)))
def J_X6_breaks_L17   : Nat → Nat → Int32 → Int32 → Int32 → Int32 → Int32 → Hp → jR
  | 0 => fun _ _ _ _ _ _ _ => none
  | n + 1 => J_X6_breaks_L17b   (J_X6_breaks_L17   n)
def J_X6_breaks  (a0 : Nat) (v1 : Int32) (v2 : Int32) (σ : Hp) : jR := jcv σ a0 6 (J_X6_wordsOf a0 v1 σ) (fun w2 t1 => jvI w2 (fun x3 => jpI t1 a0 6 27 0 (fun t4 => J_X6_breaks_L17   jN a0 v1 v2 ((-1)) x3 0 t4))) (fun E t => some (.inr E, t))
set_option maxHeartbeats 4000000 in
set_option maxRecDepth 100000 in
theorem w_X6_breaks_L107 (l : Launch) (hst : l.stackTraces = false) {p : Program} {e : Env} {s : State} {m : MethodId} {args : Array Value} {below : List Frame} {meth : Method} {c : Code} {g : jG} {o : jO} {τ : Hp}  (C : jC p l s m args meth c g RX6 cX6_breaks 8 (some FieldType.int)) (hE : ∀ x ∈ c.exceptionTable.toList, False) (k155 : Nat → Int32 → Int32 → Int32 → Int32 → Int32 → Hp → jR) (hk155 : ∀ (a0x : Nat) (v1x : Int32) (v2x : Int32) (v3x : Int32) (v4x : Int32) (v5x : Int32) (tx : Hp), k155 a0x v1x v2x v3x v4x v5x tx = some (o, τ) → jW p l e ({ frames := 7, cells := 0, slots := 0, locals := 157 } : Room) s m args below meth c g (jQ below g o τ args s 0 0) 0 0 155 [(0, .ref a0x), (1, .int v1x), (2, .int v2x), (3, .int v3x), (4, .int v4x), (5, .int v5x)] [] tx) : ∀ (n : Nat) (a0 : Nat) (v1 : Int32) (v2 : Int32) (v3 : Int32) (v4 : Int32) (v5 : Int32) (v7 : Int32) (t0 : Hp), J_X6_breaks_L107  k155 n a0 v1 v2 v3 v4 v5 v7 t0 = some (o, τ) → jW p l e ({ frames := 7, cells := 0, slots := 0, locals := 157 } : Room) s m args below meth c g (jQ below g o τ args s 0 0) 0 0 107 [(0, .ref a0), (1, .int v1), (2, .int v2), (3, .int v3), (4, .int v4), (5, .int v5), (7, .int v7)] [] t0 := by
  intro n
  induction n with
  | zero => intro a0 v1 v2 v3 v4 v5 v7 t0 h; cases h
  | succ n ih =>
    intro a0 v1 v2 v3 v4 v5 v7 t0 h
    have h : J_X6_breaks_L107b  k155 (J_X6_breaks_L107  k155 n) a0 v1 v2 v3 v4 v5 v7 t0 = some (o, τ) := h
    unfold J_X6_breaks_L107b at h
    refine r_iload C 109 rfl 6 dX6_breaks_107 rfl ?_
    refine r_aload_n C (x := some a0) 110 rfl 0 dX6_breaks_109 rfl ?_
    refine r_getI C 113 rfl ff_X6_155 dX6_breaks_110 h (fun x13 h => ?_)
    refine r_icmp_ge C 155 116 rfl dX6_breaks_113 (by decide) h (fun h => ?_) (fun h => ?_)
    · refine r_lv [0, 1, 2, 3, 4, 5] rfl ?_
      exact hk155 a0 v1 v2 v3 v4 v5 t0 h
    · refine r_aload_n C (x := some a0) 117 rfl 0 dX6_breaks_116 rfl ?_
      refine r_getR C 120 rfl ff_X6_71 dX6_breaks_117 h (fun r14 h => ?_)
      refine r_aload_n C (x := some a0) 121 rfl 0 dX6_breaks_120 rfl ?_
      refine r_getI C 124 rfl ff_X6_177 dX6_breaks_121 h (fun x15 h => ?_)
      refine r_iconst C (v := 1) 125 rfl dX6_breaks_124 (by decide) ?_
      refine r_isub C 126 rfl dX6_breaks_125 ?_
      replace h := jdr_some h
      obtain ⟨b16, hr, h⟩ := h
      rw [hr]
      refine r_iald C 127 rfl dX6_breaks_126 h (fun x17 h => ?_)
      refine r_aload_n C (x := some a0) 128 rfl 0 dX6_breaks_127 rfl ?_
      refine r_getI C 131 rfl ff_X6_40 dX6_breaks_128 h (fun x18 h => ?_)
      obtain ⟨j138, hj138E, h⟩ := jj_some h
      have hj138 : ∀ (t19 : Hp), j138 t19 = some (o, τ) → jW p l e ({ frames := 7, cells := 0, slots := 0, locals := 157 } : Room) s m args below meth c g (jQ below g o τ args s 0 0) 0 0 138 [(0, .ref a0), (1, .int v1), (2, .int v2), (3, .int v3), (4, .int v4), (5, .int v5), (7, .int v7)] [] t19 := by
        subst hj138E
        intro t19 h
        refine r_aload_n C (x := some a0) 139 rfl 0 dX6_breaks_138 rfl ?_
        refine r_aload_n C (x := some a0) 140 rfl 0 dX6_breaks_139 rfl ?_
        refine r_getR C 143 rfl ff_X6_62 dX6_breaks_140 h (fun r20 h => ?_)
        refine r_iload C 145 rfl 6 dX6_breaks_143 rfl ?_
        replace h := jdr_some h
        obtain ⟨b21, hr, h⟩ := h
        rw [hr]
        refine r_iald C 146 rfl dX6_breaks_145 h (fun x22 h => ?_)
        refine r_callV C (ci := 6) mm_X6_180 im_yX6_addsCell se_yX6_addsCell rfl 149 0 0 rfl rfl rfl dX6_breaks_146 rfl rfl (As := [.int x22]) rfl rfl (Nat.le_of_ble_eq_true rfl) ⟨Nat.le_of_ble_eq_true rfl, Nat.le_of_ble_eq_true rfl⟩ ⟨(Nat.le_of_ble_eq_true rfl), (Nat.le_of_ble_eq_true rfl)⟩ (fun o t h => k_X6_addsCell l hst g _ _ _ o t h) h (fun w24 t23 h => ?_) (fun E t h => r_out C (fun x hx => (hE x hx).elim) (Nat.le_refl _) (Nat.le_refl _) h)
        replace h := jvV_some h
        obtain ⟨rfl, h⟩ := h
        refine r_iinc C (v := v7 + 1) 152 rfl 6 [(7, .int (v7 + 1)), (0, .ref a0), (1, .int v1), (2, .int v2), (3, .int v3), (4, .int v4), (5, .int v5)] dX6_breaks_149 rfl rfl (by decide) rfl ?_
        refine r_goto C 107 dX6_breaks_152 (by decide) ?_
        refine r_lv [1, 2, 3, 4, 5, 6, 0] rfl ?_
        exact ih a0 v1 v2 v3 v4 v5 (v7 + 1) t23 h
      clear hj138E
      refine r_icmp_ne C 138 134 rfl dX6_breaks_131 (by decide) h (fun h => ?_) (fun h => ?_)
      · exact hj138 t0 h
      · refine r_aload_n C (x := some a0) 135 rfl 0 dX6_breaks_134 rfl ?_
        refine r_callV C (ci := 6) mm_X6_184 im_yX6_begins se_yX6_begins rfl 138 0 0 rfl rfl rfl dX6_breaks_135 rfl rfl (As := []) rfl rfl (Nat.le_of_ble_eq_true rfl) ⟨Nat.le_of_ble_eq_true rfl, Nat.le_of_ble_eq_true rfl⟩ ⟨(Nat.le_of_ble_eq_true rfl), (Nat.le_of_ble_eq_true rfl)⟩ (fun o t h => k_X6_begins l hst g _ _ o t h) h (fun w26 t25 h => ?_) (fun E t h => r_out C (fun x hx => (hE x hx).elim) (Nat.le_refl _) (Nat.le_refl _) h)
        replace h := jvV_some h
        obtain ⟨rfl, h⟩ := h
        exact hj138 t25 h
set_option maxHeartbeats 4000000 in
set_option maxRecDepth 100000 in
theorem w_X6_breaks_L17 (l : Launch) (hst : l.stackTraces = false) {p : Program} {e : Env} {s : State} {m : MethodId} {args : Array Value} {below : List Frame} {meth : Method} {c : Code} {g : jG} {o : jO} {τ : Hp}  (C : jC p l s m args meth c g RX6 cX6_breaks 8 (some FieldType.int)) (hE : ∀ x ∈ c.exceptionTable.toList, False)  : ∀ (n : Nat) (a0 : Nat) (v1 : Int32) (v2 : Int32) (v3 : Int32) (v4 : Int32) (v5 : Int32) (t0 : Hp), J_X6_breaks_L17   n a0 v1 v2 v3 v4 v5 t0 = some (o, τ) → jW p l e ({ frames := 7, cells := 0, slots := 0, locals := 157 } : Room) s m args below meth c g (jQ below g o τ args s 0 0) 0 0 17 [(0, .ref a0), (1, .int v1), (2, .int v2), (3, .int v3), (4, .int v4), (5, .int v5)] [] t0 := by
  intro n
  induction n with
  | zero => intro a0 v1 v2 v3 v4 v5 t0 h; cases h
  | succ n ih =>
    intro a0 v1 v2 v3 v4 v5 t0 h
    have h : J_X6_breaks_L17b   (J_X6_breaks_L17   n) a0 v1 v2 v3 v4 v5 t0 = some (o, τ) := h
    unfold J_X6_breaks_L17b at h
    refine r_iload C 19 rfl 5 dX6_breaks_17 rfl ?_
    refine r_iload C 21 rfl 4 dX6_breaks_19 rfl ?_
    refine r_icmp_ge C 161 24 rfl dX6_breaks_21 (by decide) h (fun h => ?_) (fun h => ?_)
    · refine r_iload_n C 162 rfl 3 dX6_breaks_161 rfl ?_
      exact r_iret C dX6_breaks_162 (Nat.le_refl _) (Nat.le_refl _) h
    · refine r_aload_n C (x := some a0) 25 rfl 0 dX6_breaks_24 rfl ?_
      refine r_iload_n C 26 rfl 1 dX6_breaks_25 rfl ?_
      refine r_iload C 28 rfl 5 dX6_breaks_26 rfl ?_
      refine r_callV C (ci := 6) mm_X6_168 im_yX6_translates se_yX6_translates rfl 31 0 0 rfl rfl rfl dX6_breaks_28 rfl rfl (As := [.int v1, .int v5]) rfl rfl (Nat.le_of_ble_eq_true rfl) ⟨Nat.le_of_ble_eq_true rfl, Nat.le_of_ble_eq_true rfl⟩ ⟨(Nat.le_of_ble_eq_true rfl), (Nat.le_of_ble_eq_true rfl)⟩ (fun o t h => k_X6_translates l hst g _ _ _ _ o t h) h (fun w6 t5 h => ?_) (fun E t h => r_out C (fun x hx => (hE x hx).elim) (Nat.le_refl _) (Nat.le_refl _) h)
      replace h := jvV_some h
      obtain ⟨rfl, h⟩ := h
      refine r_aload_n C (x := some a0) 32 rfl 0 dX6_breaks_31 rfl ?_
      refine r_getI C 35 rfl ff_X6_177 dX6_breaks_32 h (fun x7 h => ?_)
      obtain ⟨j68, hj68E, h⟩ := jj_some h
      have hj68 : ∀ (x8 : Int32) (t9 : Hp), j68 x8 t9 = some (o, τ) → jW p l e ({ frames := 7, cells := 0, slots := 0, locals := 157 } : Room) s m args below meth c g (jQ below g o τ args s 0 0) 0 0 68 [(0, .ref a0), (1, .int v1), (2, .int v2), (3, .int v3), (4, .int v4), (5, .int v5)] [.int x8] t9 := by
        subst hj68E
        intro x8 t9 h
        refine r_istore C 70 rfl [(6, .int x8), (0, .ref a0), (1, .int v1), (2, .int v2), (3, .int v3), (4, .int v4), (5, .int v5)] dX6_breaks_68 (by decide) rfl ?_
        refine r_iload C 72 rfl 0 dX6_breaks_70 rfl ?_
        obtain ⟨j87, hj87E, h⟩ := jj_some h
        have hj87 : ∀ (t10 : Hp), j87 t10 = some (o, τ) → jW p l e ({ frames := 7, cells := 0, slots := 0, locals := 157 } : Room) s m args below meth c g (jQ below g o τ args s 0 0) 0 0 87 [(0, .ref a0), (1, .int v1), (2, .int v2), (3, .int v3), (4, .int v4), (5, .int v5)] [] t10 := by
          subst hj87E
          intro t10 h
          refine r_iload C 89 rfl 5 dX6_breaks_87 rfl ?_
          refine r_iload_n C 90 rfl 2 dX6_breaks_89 rfl ?_
          obtain ⟨j103, hj103E, h⟩ := jj_some h
          have hj103 : ∀ (x11 : Int32) (t12 : Hp), j103 x11 t12 = some (o, τ) → jW p l e ({ frames := 7, cells := 0, slots := 0, locals := 157 } : Room) s m args below meth c g (jQ below g o τ args s 0 0) 0 0 103 [(0, .ref a0), (1, .int v1), (2, .int v2), (4, .int v4), (5, .int v5)] [.int x11] t12 := by
            subst hj103E
            intro x11 t12 h
            refine r_istore_n C 104 rfl [(3, .int x11), (0, .ref a0), (1, .int v1), (2, .int v2), (4, .int v4), (5, .int v5)] dX6_breaks_103 (by decide) rfl ?_
            refine r_iconst C (v := 0) 105 rfl dX6_breaks_104 (by decide) ?_
            refine r_istore C 107 rfl [(7, .int 0), (3, .int x11), (0, .ref a0), (1, .int v1), (2, .int v2), (4, .int v4), (5, .int v5)] dX6_breaks_105 (by decide) rfl ?_
            refine r_lv [2, 3, 4, 1, 5, 6, 0] rfl ?_
            refine w_X6_breaks_L107 l hst  C hE _ (fun x27 x28 x29 x30 x31 x32 t33 h => ?_) jN a0 v1 v2 x11 v4 v5 0 t12 h
            refine r_iinc C (v := x32 + 1) 158 rfl 5 [(5, .int (x32 + 1)), (0, .ref x27), (1, .int x28), (2, .int x29), (3, .int x30), (4, .int x31)] dX6_breaks_155 rfl rfl (by decide) rfl ?_
            refine r_goto C 17 dX6_breaks_158 (by decide) ?_
            refine r_lv [1, 2, 3, 4, 5, 0] rfl ?_
            exact ih x27 x28 x29 x30 x31 (x32 + 1) t33 h
          clear hj103E
          refine r_icmp_ne C 102 93 rfl dX6_breaks_90 (by decide) h (fun h => ?_) (fun h => ?_)
          · refine r_iload_n C 103 rfl 3 dX6_breaks_102 rfl ?_
            refine r_lv [0, 1, 2, 4, 5] rfl ?_
            exact hj103 v3 t10 h
          · refine r_aload_n C (x := some a0) 94 rfl 0 dX6_breaks_93 rfl ?_
            refine r_getI C 97 rfl ff_X6_177 dX6_breaks_94 h (fun x34 h => ?_)
            refine r_iconst C (v := 1) 98 rfl dX6_breaks_97 (by decide) ?_
            refine r_isub C 99 rfl dX6_breaks_98 ?_
            refine r_goto C 103 dX6_breaks_99 (by decide) ?_
            refine r_lv [0, 1, 2, 4, 5] rfl ?_
            exact hj103 (x34 - 1) t10 h
        clear hj87E
        refine r_if_eq C 83 75 rfl dX6_breaks_72 (by decide) h (fun h => ?_) (fun h => ?_)
        · refine r_aload_n C (x := some a0) 84 rfl 1 dX6_breaks_83 rfl ?_
          refine r_callV C (ci := 6) mm_X6_184 im_yX6_begins se_yX6_begins rfl 87 0 0 rfl rfl rfl dX6_breaks_84 rfl rfl (As := []) rfl rfl (Nat.le_of_ble_eq_true rfl) ⟨Nat.le_of_ble_eq_true rfl, Nat.le_of_ble_eq_true rfl⟩ ⟨(Nat.le_of_ble_eq_true rfl), (Nat.le_of_ble_eq_true rfl)⟩ (fun o t h => k_X6_begins l hst g _ _ o t h) h (fun w36 t35 h => ?_) (fun E t h => r_out C (fun x hx => (hE x hx).elim) (Nat.le_refl _) (Nat.le_refl _) h)
          replace h := jvV_some h
          obtain ⟨rfl, h⟩ := h
          refine r_lv [1, 2, 3, 4, 5, 6] rfl ?_
          exact hj87 t35 h
        · refine r_aload_n C (x := some a0) 76 rfl 1 dX6_breaks_75 rfl ?_
          refine r_iconst C (v := 0) 77 rfl dX6_breaks_76 (by decide) ?_
          refine r_callV C (ci := 6) mm_X6_180 im_yX6_addsCell se_yX6_addsCell rfl 80 0 0 rfl rfl rfl dX6_breaks_77 rfl rfl (As := [.int 0]) rfl rfl (Nat.le_of_ble_eq_true rfl) ⟨Nat.le_of_ble_eq_true rfl, Nat.le_of_ble_eq_true rfl⟩ ⟨(Nat.le_of_ble_eq_true rfl), (Nat.le_of_ble_eq_true rfl)⟩ (fun o t h => k_X6_addsCell l hst g _ _ _ o t h) h (fun w38 t37 h => ?_) (fun E t h => r_out C (fun x hx => (hE x hx).elim) (Nat.le_refl _) (Nat.le_refl _) h)
          replace h := jvV_some h
          obtain ⟨rfl, h⟩ := h
          refine r_goto C 87 dX6_breaks_80 (by decide) ?_
          refine r_lv [1, 2, 3, 4, 5, 6] rfl ?_
          exact hj87 t37 h
      clear hj68E
      obtain ⟨j67, hj67E, h⟩ := jj_some h
      have hj67 : ∀ (t39 : Hp), j67 t39 = some (o, τ) → jW p l e ({ frames := 7, cells := 0, slots := 0, locals := 157 } : Room) s m args below meth c g (jQ below g o τ args s 0 0) 0 0 67 [(0, .ref a0), (1, .int v1), (2, .int v2), (3, .int v3), (4, .int v4), (5, .int v5)] [] t39 := by
        subst hj67E
        intro t39 h
        refine r_iconst C (v := 0) 68 rfl dX6_breaks_67 (by decide) ?_
        exact hj68 0 t39 h
      clear hj67E
      refine r_if_le C 67 38 rfl dX6_breaks_35 (by decide) h (fun h => ?_) (fun h => ?_)
      · exact hj67 t5 h
      · refine r_aload_n C (x := some a0) 39 rfl 0 dX6_breaks_38 rfl ?_
        refine r_getR C 42 rfl ff_X6_71 dX6_breaks_39 h (fun r40 h => ?_)
        refine r_aload_n C (x := some a0) 43 rfl 0 dX6_breaks_42 rfl ?_
        refine r_getI C 46 rfl ff_X6_177 dX6_breaks_43 h (fun x41 h => ?_)
        refine r_iconst C (v := 1) 47 rfl dX6_breaks_46 (by decide) ?_
        refine r_isub C 48 rfl dX6_breaks_47 ?_
        replace h := jdr_some h
        obtain ⟨b42, hr, h⟩ := h
        rw [hr]
        refine r_iald C 49 rfl dX6_breaks_48 h (fun x43 h => ?_)
        refine r_iconst C (v := 1) 50 rfl dX6_breaks_49 (by decide) ?_
        refine r_iadd C 51 rfl dX6_breaks_50 ?_
        refine r_aload_n C (x := some a0) 52 rfl 0 dX6_breaks_51 rfl ?_
        refine r_getI C 55 rfl ff_X6_155 dX6_breaks_52 h (fun x44 h => ?_)
        refine r_iadd C 56 rfl dX6_breaks_55 ?_
        refine r_aload_n C (x := some a0) 57 rfl 0 dX6_breaks_56 rfl ?_
        refine r_getI C 60 rfl ff_X6_40 dX6_breaks_57 h (fun x45 h => ?_)
        refine r_icmp_gt C 67 63 rfl dX6_breaks_60 (by decide) h (fun h => ?_) (fun h => ?_)
        · exact hj67 t5 h
        · refine r_iconst C (v := 1) 64 rfl dX6_breaks_63 (by decide) ?_
          refine r_goto C 68 dX6_breaks_64 (by decide) ?_
          exact hj68 1 t5 h
set_option maxHeartbeats 4000000 in
set_option maxRecDepth 100000 in
theorem k_X6_breaks (l : Launch) (hst : l.stackTraces = false) (g : jG)   (a0 : Nat) (v1 : Int32) (v2 : Int32) (σ : Hp) (o : jO) (τ : Hp) (h : J_X6_breaks a0 v1 v2 σ = some (o, τ)) : jMet l g yX6_breaks (Cond.code yX6_breaks cX6_breaks 8 (some FieldType.int) :: gT) ({ frames := 7, cells := 0, slots := 0, locals := 157 } : Room) 0 0 [.ref a0, .int v1, .int v2] σ o τ := by
  refine j_start l hst (own := RX6) (by decide) rfl (Nat.le_of_ble_eq_true rfl) ?_
  intro p e s m args below meth c C hE hin
  unfold J_X6_breaks at h
  show jW p l e ({ frames := 7, cells := 0, slots := 0, locals := 157 } : Room) s m args below meth c g (jQ below g o τ args s 0 0) 0 0 0 [(0, .ref a0), (1, .int v1), (2, .int v2)] [] σ
  refine r_iconst C (v := (-1)) 1 rfl dX6_breaks_0 (by decide) ?_
  refine r_istore_n C 2 rfl [(3, .int ((-1))), (0, .ref a0), (1, .int v1), (2, .int v2)] dX6_breaks_1 (by decide) rfl ?_
  refine r_aload_n C (x := some a0) 3 rfl 1 dX6_breaks_2 rfl ?_
  refine r_iload_n C 4 rfl 2 dX6_breaks_3 rfl ?_
  refine r_callV C (ci := 6) mm_X6_165 im_yX6_wordsOf se_yX6_wordsOf rfl 7 0 0 rfl rfl rfl dX6_breaks_4 rfl rfl (As := [.int v1]) rfl rfl (Nat.le_of_ble_eq_true rfl) ⟨Nat.le_of_ble_eq_true rfl, Nat.le_of_ble_eq_true rfl⟩ ⟨(Nat.le_of_ble_eq_true rfl), (Nat.le_of_ble_eq_true rfl)⟩ (fun o t h => k_X6_wordsOf l hst g _ _ _ o t h) h (fun w2 t1 h => ?_) (fun E t h => r_out C (fun x hx => (hE x hx).elim) (Nat.le_refl _) (Nat.le_refl _) h)
  replace h := jvI_some h
  obtain ⟨x3, rfl, h⟩ := h
  refine r_istore C 9 rfl [(4, .int x3), (3, .int ((-1))), (0, .ref a0), (1, .int v1), (2, .int v2)] dX6_breaks_7 (by decide) rfl ?_
  refine r_aload_n C (x := some a0) 10 rfl 2 dX6_breaks_9 rfl ?_
  refine r_iconst C (v := 0) 11 rfl dX6_breaks_10 (by decide) ?_
  refine r_putI C 14 rfl fp_X6_177 dX6_breaks_11 h (fun t4 h => ?_)
  refine r_iconst C (v := 0) 15 rfl dX6_breaks_14 (by decide) ?_
  refine r_istore C 17 rfl [(5, .int 0), (4, .int x3), (3, .int ((-1))), (0, .ref a0), (1, .int v1), (2, .int v2)] dX6_breaks_15 (by decide) rfl ?_
  refine r_lv [3, 4, 5, 2, 1, 0] rfl ?_
  refine w_X6_breaks_L17 l hst  C hE  jN a0 v1 v2 ((-1)) x3 0 t4 h

def J_X6_lines  (a0 : Nat) (v1 : Int32) (σ : Hp) : jR := jcv σ a0 6 (J_X6_isText a0 v1 σ) (fun w2 t1 => jvI w2 (fun x3 => jj (fun (x4 : Int32) (t5 : Hp) => jcv t5 a0 6 (J_X6_goesOn a0 x4 t5) (fun w7 t6 => jvI w7 (fun x8 => (if x8 = 0 then some (.inl (some (.int 0)), t6) else jcv t6 a0 6 (J_X6_breaks a0 v1 ((-1)) t6) (fun w10 t9 => jvI w10 (fun x11 => jgI t9 a0 6 27 (fun x12 => some (.inl (some (.int x12)), t9)))) (fun E t => some (.inr E, t))))) (fun E t => some (.inr E, t))) (fun j14 => (if x3 = 0 then j14 1 t1 else j14 0 t1)))) (fun E t => some (.inr E, t))
set_option maxHeartbeats 4000000 in
set_option maxRecDepth 100000 in
theorem k_X6_lines (l : Launch) (hst : l.stackTraces = false) (g : jG)   (a0 : Nat) (v1 : Int32) (σ : Hp) (o : jO) (τ : Hp) (h : J_X6_lines a0 v1 σ = some (o, τ)) : jMet l g yX6_lines (Cond.code yX6_lines cX6_lines 3 (some FieldType.int) :: gT) ({ frames := 8, cells := 0, slots := 0, locals := 184 } : Room) 0 0 [.ref a0, .int v1] σ o τ := by
  refine j_start l hst (own := RX6) (by decide) rfl (Nat.le_of_ble_eq_true rfl) ?_
  intro p e s m args below meth c C hE hin
  unfold J_X6_lines at h
  show jW p l e ({ frames := 8, cells := 0, slots := 0, locals := 184 } : Room) s m args below meth c g (jQ below g o τ args s 0 0) 0 0 0 [(0, .ref a0), (1, .int v1)] [] σ
  refine r_aload_n C (x := some a0) 1 rfl 0 dX6_lines_0 rfl ?_
  refine r_aload_n C (x := some a0) 2 rfl 0 dX6_lines_1 rfl ?_
  refine r_iload_n C 3 rfl 1 dX6_lines_2 rfl ?_
  refine r_callV C (ci := 6) mm_X6_171 im_yX6_isText se_yX6_isText rfl 6 0 0 rfl rfl rfl dX6_lines_3 rfl rfl (As := [.int v1]) rfl rfl (Nat.le_of_ble_eq_true rfl) ⟨Nat.le_of_ble_eq_true rfl, Nat.le_of_ble_eq_true rfl⟩ ⟨(Nat.le_of_ble_eq_true rfl), (Nat.le_of_ble_eq_true rfl)⟩ (fun o t h => k_X6_isText l hst g _ _ _ o t h) h (fun w2 t1 h => ?_) (fun E t h => r_out C (fun x hx => (hE x hx).elim) (Nat.le_refl _) (Nat.le_refl _) h)
  replace h := jvI_some h
  obtain ⟨x3, rfl, h⟩ := h
  obtain ⟨j14, hj14E, h⟩ := jj_some h
  have hj14 : ∀ (x4 : Int32) (t5 : Hp), j14 x4 t5 = some (o, τ) → jW p l e ({ frames := 8, cells := 0, slots := 0, locals := 184 } : Room) s m args below meth c g (jQ below g o τ args s 0 0) 0 0 14 [(0, .ref a0), (1, .int v1)] [.int x4, .ref a0] t5 := by
    subst hj14E
    intro x4 t5 h
    refine r_callV C (ci := 6) mm_X6_84 im_yX6_goesOn se_yX6_goesOn rfl 17 0 0 rfl rfl rfl dX6_lines_14 rfl rfl (As := [.int x4]) rfl rfl (Nat.le_of_ble_eq_true rfl) ⟨Nat.le_of_ble_eq_true rfl, Nat.le_of_ble_eq_true rfl⟩ ⟨(Nat.le_of_ble_eq_true rfl), (Nat.le_of_ble_eq_true rfl)⟩ (fun o t h => k_X6_goesOn l hst g _ _ _ o t h) h (fun w7 t6 h => ?_) (fun E t h => r_out C (fun x hx => (hE x hx).elim) (Nat.le_refl _) (Nat.le_refl _) h)
    replace h := jvI_some h
    obtain ⟨x8, rfl, h⟩ := h
    refine r_if_ne C 22 20 rfl dX6_lines_17 (by decide) h (fun h => ?_) (fun h => ?_)
    · refine r_aload_n C (x := some a0) 23 rfl 0 dX6_lines_22 rfl ?_
      refine r_iload_n C 24 rfl 1 dX6_lines_23 rfl ?_
      refine r_iconst C (v := (-1)) 25 rfl dX6_lines_24 (by decide) ?_
      refine r_callV C (ci := 6) mm_X6_187 im_yX6_breaks se_yX6_breaks rfl 28 0 0 rfl rfl rfl dX6_lines_25 rfl rfl (As := [.int v1, .int ((-1))]) rfl rfl (Nat.le_of_ble_eq_true rfl) ⟨Nat.le_of_ble_eq_true rfl, Nat.le_of_ble_eq_true rfl⟩ ⟨(Nat.le_of_ble_eq_true rfl), (Nat.le_of_ble_eq_true rfl)⟩ (fun o t h => k_X6_breaks l hst g _ _ _ _ o t h) h (fun w10 t9 h => ?_) (fun E t h => r_out C (fun x hx => (hE x hx).elim) (Nat.le_refl _) (Nat.le_refl _) h)
      replace h := jvI_some h
      obtain ⟨x11, rfl, h⟩ := h
      refine r_istore_n C 29 rfl [(2, .int x11), (0, .ref a0), (1, .int v1)] dX6_lines_28 (by decide) rfl ?_
      refine r_aload_n C (x := some a0) 30 rfl 1 dX6_lines_29 rfl ?_
      refine r_getI C 33 rfl ff_X6_177 dX6_lines_30 h (fun x12 h => ?_)
      exact r_iret C dX6_lines_33 (Nat.le_refl _) (Nat.le_refl _) h
    · refine r_iconst C (v := 0) 21 rfl dX6_lines_20 (by decide) ?_
      exact r_iret C dX6_lines_21 (Nat.le_refl _) (Nat.le_refl _) h
  clear hj14E
  refine r_if_eq C 13 9 rfl dX6_lines_6 (by decide) h (fun h => ?_) (fun h => ?_)
  · refine r_iconst C (v := 1) 14 rfl dX6_lines_13 (by decide) ?_
    exact hj14 1 t1 h
  · refine r_iconst C (v := 0) 10 rfl dX6_lines_9 (by decide) ?_
    refine r_goto C 14 dX6_lines_10 (by decide) ?_
    exact hj14 0 t1 h

def J_X6_lineAt  (a0 : Nat) (v1 : Int32) (v2 : Int32) (v3 : Int32) (σ : Hp) : jR := jcv σ a0 6 (J_X6_isText a0 v1 σ) (fun w2 t1 => jvI w2 (fun x3 => jj (fun (x4 : Int32) (t5 : Hp) => jj (fun (x6 : Int32) (t7 : Hp) => jj (fun (x8 : Int32) (t9 : Hp) => jcv t9 a0 6 (J_X6_goesOn a0 x8 t9) (fun w11 t10 => jvI w11 (fun x12 => (if x12 = 0 then some (.inl (some (.int 0)), t10) else jgR t10 a0 6 25 (fun r13 => jdr r13 (fun b14 => jaI t10 b14 ((40 * v2) + v3) (fun x15 => some (.inl (some (.int x15)), t10))))))) (fun E t => some (.inr E, t))) (fun j81 => (if x6 = 0 then j81 1 t7 else jgR t7 a0 6 26 (fun r16 => jdr r16 (fun b17 => jaI t7 b17 v2 (fun x18 => jcs (J_X6_in v3 0 (x18 - 1) t7) (fun w20 t19 => jvI w20 (fun x21 => (if x21 = 0 then j81 2 t19 else j81 0 t19))) (fun E t => some (.inr E, t)))))))) (fun j48 => jj (fun (t22 : Hp) => j48 0 t22) (fun j47 => (if x3 = 0 then j47 t5 else jgI t5 a0 6 27 (fun x23 => jcs (J_X6_in v2 0 (x23 - 1) t5) (fun w25 t24 => jvI w25 (fun x26 => (if x26 = 0 then j47 t24 else j48 1 t24))) (fun E t => some (.inr E, t))))))) (fun j22 => (if x3 = 0 then j22 ((-1)) t1 else jcv t1 a0 6 (J_X6_breaks a0 v1 ((-1)) t1) (fun w28 t27 => jvI w28 (fun x29 => j22 x29 t27)) (fun E t => some (.inr E, t)))))) (fun E t => some (.inr E, t))
set_option maxHeartbeats 4000000 in
set_option maxRecDepth 100000 in
theorem k_X6_lineAt (l : Launch) (hst : l.stackTraces = false) (g : jG)   (a0 : Nat) (v1 : Int32) (v2 : Int32) (v3 : Int32) (σ : Hp) (o : jO) (τ : Hp) (h : J_X6_lineAt a0 v1 v2 v3 σ = some (o, τ)) : jMet l g yX6_lineAt (Cond.code yX6_lineAt cX6_lineAt 7 (some FieldType.int) :: gT) ({ frames := 8, cells := 0, slots := 0, locals := 184 } : Room) 0 0 [.ref a0, .int v1, .int v2, .int v3] σ o τ := by
  refine j_start l hst (own := RX6) (by decide) rfl (Nat.le_of_ble_eq_true rfl) ?_
  intro p e s m args below meth c C hE hin
  unfold J_X6_lineAt at h
  show jW p l e ({ frames := 8, cells := 0, slots := 0, locals := 184 } : Room) s m args below meth c g (jQ below g o τ args s 0 0) 0 0 0 [(0, .ref a0), (1, .int v1), (2, .int v2), (3, .int v3)] [] σ
  refine r_aload_n C (x := some a0) 1 rfl 0 dX6_lineAt_0 rfl ?_
  refine r_iload_n C 2 rfl 1 dX6_lineAt_1 rfl ?_
  refine r_callV C (ci := 6) mm_X6_171 im_yX6_isText se_yX6_isText rfl 5 0 0 rfl rfl rfl dX6_lineAt_2 rfl rfl (As := [.int v1]) rfl rfl (Nat.le_of_ble_eq_true rfl) ⟨Nat.le_of_ble_eq_true rfl, Nat.le_of_ble_eq_true rfl⟩ ⟨(Nat.le_of_ble_eq_true rfl), (Nat.le_of_ble_eq_true rfl)⟩ (fun o t h => k_X6_isText l hst g _ _ _ o t h) h (fun w2 t1 h => ?_) (fun E t h => r_out C (fun x hx => (hE x hx).elim) (Nat.le_refl _) (Nat.le_refl _) h)
  replace h := jvI_some h
  obtain ⟨x3, rfl, h⟩ := h
  refine r_istore C 7 rfl [(4, .int x3), (0, .ref a0), (1, .int v1), (2, .int v2), (3, .int v3)] dX6_lineAt_5 (by decide) rfl ?_
  refine r_iload C 9 rfl 0 dX6_lineAt_7 rfl ?_
  obtain ⟨j22, hj22E, h⟩ := jj_some h
  have hj22 : ∀ (x4 : Int32) (t5 : Hp), j22 x4 t5 = some (o, τ) → jW p l e ({ frames := 8, cells := 0, slots := 0, locals := 184 } : Room) s m args below meth c g (jQ below g o τ args s 0 0) 0 0 22 [(0, .ref a0), (2, .int v2), (3, .int v3), (4, .int x3)] [.int x4] t5 := by
    subst hj22E
    intro x4 t5 h
    refine r_istore C 24 rfl [(5, .int x4), (0, .ref a0), (2, .int v2), (3, .int v3), (4, .int x3)] dX6_lineAt_22 (by decide) rfl ?_
    refine r_iload C 26 rfl 4 dX6_lineAt_24 rfl ?_
    obtain ⟨j48, hj48E, h⟩ := jj_some h
    have hj48 : ∀ (x6 : Int32) (t7 : Hp), j48 x6 t7 = some (o, τ) → jW p l e ({ frames := 8, cells := 0, slots := 0, locals := 184 } : Room) s m args below meth c g (jQ below g o τ args s 0 0) 0 0 48 [(0, .ref a0), (2, .int v2), (3, .int v3)] [.int x6] t7 := by
      subst hj48E
      intro x6 t7 h
      refine r_istore C 50 rfl [(6, .int x6), (0, .ref a0), (2, .int v2), (3, .int v3)] dX6_lineAt_48 (by decide) rfl ?_
      refine r_aload_n C (x := some a0) 51 rfl 1 dX6_lineAt_50 rfl ?_
      refine r_iload C 53 rfl 0 dX6_lineAt_51 rfl ?_
      obtain ⟨j81, hj81E, h⟩ := jj_some h
      have hj81 : ∀ (x8 : Int32) (t9 : Hp), j81 x8 t9 = some (o, τ) → jW p l e ({ frames := 8, cells := 0, slots := 0, locals := 184 } : Room) s m args below meth c g (jQ below g o τ args s 0 0) 0 0 81 [(0, .ref a0), (2, .int v2), (3, .int v3)] [.int x8, .ref a0] t9 := by
        subst hj81E
        intro x8 t9 h
        refine r_callV C (ci := 6) mm_X6_84 im_yX6_goesOn se_yX6_goesOn rfl 84 0 0 rfl rfl rfl dX6_lineAt_81 rfl rfl (As := [.int x8]) rfl rfl (Nat.le_of_ble_eq_true rfl) ⟨Nat.le_of_ble_eq_true rfl, Nat.le_of_ble_eq_true rfl⟩ ⟨(Nat.le_of_ble_eq_true rfl), (Nat.le_of_ble_eq_true rfl)⟩ (fun o t h => k_X6_goesOn l hst g _ _ _ o t h) h (fun w11 t10 h => ?_) (fun E t h => r_out C (fun x hx => (hE x hx).elim) (Nat.le_refl _) (Nat.le_refl _) h)
        replace h := jvI_some h
        obtain ⟨x12, rfl, h⟩ := h
        refine r_if_eq C 101 87 rfl dX6_lineAt_84 (by decide) h (fun h => ?_) (fun h => ?_)
        · refine r_iconst C (v := 0) 102 rfl dX6_lineAt_101 (by decide) ?_
          exact r_iret C dX6_lineAt_102 (Nat.le_refl _) (Nat.le_refl _) h
        · refine r_aload_n C (x := some a0) 88 rfl 0 dX6_lineAt_87 rfl ?_
          refine r_getR C 91 rfl ff_X6_68 dX6_lineAt_88 h (fun r13 h => ?_)
          refine r_bipush C (v := 40) 93 rfl dX6_lineAt_91 (by decide) ?_
          refine r_iload_n C 94 rfl 1 dX6_lineAt_93 rfl ?_
          refine r_imul C 95 rfl dX6_lineAt_94 ?_
          refine r_iload_n C 96 rfl 2 dX6_lineAt_95 rfl ?_
          refine r_iadd C 97 rfl dX6_lineAt_96 ?_
          replace h := jdr_some h
          obtain ⟨b14, hr, h⟩ := h
          rw [hr]
          refine r_iald C 98 rfl dX6_lineAt_97 h (fun x15 h => ?_)
          refine r_goto C 102 dX6_lineAt_98 (by decide) ?_
          exact r_iret C dX6_lineAt_102 (Nat.le_refl _) (Nat.le_refl _) h
      clear hj81E
      refine r_if_ne C 60 56 rfl dX6_lineAt_53 (by decide) h (fun h => ?_) (fun h => ?_)
      · refine r_iload_n C 61 rfl 3 dX6_lineAt_60 rfl ?_
        refine r_iconst C (v := 0) 62 rfl dX6_lineAt_61 (by decide) ?_
        refine r_aload_n C (x := some a0) 63 rfl 1 dX6_lineAt_62 rfl ?_
        refine r_getR C 66 rfl ff_X6_71 dX6_lineAt_63 h (fun r16 h => ?_)
        refine r_iload_n C 67 rfl 2 dX6_lineAt_66 rfl ?_
        replace h := jdr_some h
        obtain ⟨b17, hr, h⟩ := h
        rw [hr]
        refine r_iald C 68 rfl dX6_lineAt_67 h (fun x18 h => ?_)
        refine r_iconst C (v := 1) 69 rfl dX6_lineAt_68 (by decide) ?_
        refine r_isub C 70 rfl dX6_lineAt_69 ?_
        refine r_callS C mm_X6_77 st_yX6_in 73 0 0 rfl rfl rfl dX6_lineAt_70 rfl rfl (As := [.int v3, .int 0, .int (x18 - 1)]) rfl rfl (Nat.le_of_ble_eq_true rfl) ⟨Nat.le_of_ble_eq_true rfl, Nat.le_of_ble_eq_true rfl⟩ ⟨(Nat.le_of_ble_eq_true rfl), (Nat.le_of_ble_eq_true rfl)⟩ (fun o t h => k_X6_in l hst g _ _ _ _ o t h) h (fun w20 t19 h => ?_) (fun E t h => r_out C (fun x hx => (hE x hx).elim) (Nat.le_refl _) (Nat.le_refl _) h)
        replace h := jvI_some h
        obtain ⟨x21, rfl, h⟩ := h
        refine r_if_ne C 80 76 rfl dX6_lineAt_73 (by decide) h (fun h => ?_) (fun h => ?_)
        · refine r_iconst C (v := 0) 81 rfl dX6_lineAt_80 (by decide) ?_
          refine r_lv [1, 2, 3] rfl ?_
          exact hj81 0 t19 h
        · refine r_iconst C (v := 2) 77 rfl dX6_lineAt_76 (by decide) ?_
          refine r_goto C 81 dX6_lineAt_77 (by decide) ?_
          refine r_lv [1, 2, 3] rfl ?_
          exact hj81 2 t19 h
      · refine r_iconst C (v := 1) 57 rfl dX6_lineAt_56 (by decide) ?_
        refine r_goto C 81 dX6_lineAt_57 (by decide) ?_
        refine r_lv [1, 2, 3] rfl ?_
        exact hj81 1 t7 h
    clear hj48E
    obtain ⟨j47, hj47E, h⟩ := jj_some h
    have hj47 : ∀ (t22 : Hp), j47 t22 = some (o, τ) → jW p l e ({ frames := 8, cells := 0, slots := 0, locals := 184 } : Room) s m args below meth c g (jQ below g o τ args s 0 0) 0 0 47 [(0, .ref a0), (2, .int v2), (3, .int v3)] [] t22 := by
      subst hj47E
      intro t22 h
      refine r_iconst C (v := 0) 48 rfl dX6_lineAt_47 (by decide) ?_
      exact hj48 0 t22 h
    clear hj47E
    refine r_if_eq C 47 29 rfl dX6_lineAt_26 (by decide) h (fun h => ?_) (fun h => ?_)
    · refine r_lv [1, 2, 3] rfl ?_
      exact hj47 t5 h
    · refine r_iload_n C 30 rfl 2 dX6_lineAt_29 rfl ?_
      refine r_iconst C (v := 0) 31 rfl dX6_lineAt_30 (by decide) ?_
      refine r_aload_n C (x := some a0) 32 rfl 1 dX6_lineAt_31 rfl ?_
      refine r_getI C 35 rfl ff_X6_177 dX6_lineAt_32 h (fun x23 h => ?_)
      refine r_iconst C (v := 1) 36 rfl dX6_lineAt_35 (by decide) ?_
      refine r_isub C 37 rfl dX6_lineAt_36 ?_
      refine r_callS C mm_X6_77 st_yX6_in 40 0 0 rfl rfl rfl dX6_lineAt_37 rfl rfl (As := [.int v2, .int 0, .int (x23 - 1)]) rfl rfl (Nat.le_of_ble_eq_true rfl) ⟨Nat.le_of_ble_eq_true rfl, Nat.le_of_ble_eq_true rfl⟩ ⟨(Nat.le_of_ble_eq_true rfl), (Nat.le_of_ble_eq_true rfl)⟩ (fun o t h => k_X6_in l hst g _ _ _ _ o t h) h (fun w25 t24 h => ?_) (fun E t h => r_out C (fun x hx => (hE x hx).elim) (Nat.le_refl _) (Nat.le_refl _) h)
      replace h := jvI_some h
      obtain ⟨x26, rfl, h⟩ := h
      refine r_if_eq C 47 43 rfl dX6_lineAt_40 (by decide) h (fun h => ?_) (fun h => ?_)
      · refine r_lv [1, 2, 3] rfl ?_
        exact hj47 t24 h
      · refine r_iconst C (v := 1) 44 rfl dX6_lineAt_43 (by decide) ?_
        refine r_goto C 48 dX6_lineAt_44 (by decide) ?_
        refine r_lv [1, 2, 3] rfl ?_
        exact hj48 1 t24 h
  clear hj22E
  refine r_if_eq C 21 12 rfl dX6_lineAt_9 (by decide) h (fun h => ?_) (fun h => ?_)
  · refine r_iconst C (v := (-1)) 22 rfl dX6_lineAt_21 (by decide) ?_
    refine r_lv [1, 3, 4, 0] rfl ?_
    exact hj22 ((-1)) t1 h
  · refine r_aload_n C (x := some a0) 13 rfl 1 dX6_lineAt_12 rfl ?_
    refine r_iload_n C 14 rfl 2 dX6_lineAt_13 rfl ?_
    refine r_iconst C (v := (-1)) 15 rfl dX6_lineAt_14 (by decide) ?_
    refine r_callV C (ci := 6) mm_X6_187 im_yX6_breaks se_yX6_breaks rfl 18 0 0 rfl rfl rfl dX6_lineAt_15 rfl rfl (As := [.int v1, .int ((-1))]) rfl rfl (Nat.le_of_ble_eq_true rfl) ⟨Nat.le_of_ble_eq_true rfl, Nat.le_of_ble_eq_true rfl⟩ ⟨(Nat.le_of_ble_eq_true rfl), (Nat.le_of_ble_eq_true rfl)⟩ (fun o t h => k_X6_breaks l hst g _ _ _ _ o t h) h (fun w28 t27 h => ?_) (fun E t h => r_out C (fun x hx => (hE x hx).elim) (Nat.le_refl _) (Nat.le_refl _) h)
    replace h := jvI_some h
    obtain ⟨x29, rfl, h⟩ := h
    refine r_goto C 22 dX6_lineAt_18 (by decide) ?_
    refine r_lv [1, 3, 4, 0] rfl ?_
    exact hj22 x29 t27 h

def J_X6_lineOf  (a0 : Nat) (v1 : Int32) (v2 : Int32) (σ : Hp) : jR := jcv σ a0 6 (J_X6_isWord a0 v1 v2 σ) (fun w2 t1 => jvI w2 (fun x3 => jj (fun (x4 : Int32) (t5 : Hp) => jcv t5 a0 6 (J_X6_goesOn a0 x4 t5) (fun w7 t6 => jvI w7 (fun x8 => (if x8 = 0 then some (.inl (some (.int 0)), t6) else jcv t6 a0 6 (J_X6_breaks a0 v1 v2 t6) (fun w10 t9 => jvI w10 (fun x11 => some (.inl (some (.int x11)), t9))) (fun E t => some (.inr E, t))))) (fun E t => some (.inr E, t))) (fun j15 => (if x3 = 0 then j15 1 t1 else j15 0 t1)))) (fun E t => some (.inr E, t))
set_option maxHeartbeats 4000000 in
set_option maxRecDepth 100000 in
theorem k_X6_lineOf (l : Launch) (hst : l.stackTraces = false) (g : jG)   (a0 : Nat) (v1 : Int32) (v2 : Int32) (σ : Hp) (o : jO) (τ : Hp) (h : J_X6_lineOf a0 v1 v2 σ = some (o, τ)) : jMet l g yX6_lineOf (Cond.code yX6_lineOf cX6_lineOf 3 (some FieldType.int) :: gT) ({ frames := 8, cells := 0, slots := 0, locals := 184 } : Room) 0 0 [.ref a0, .int v1, .int v2] σ o τ := by
  refine j_start l hst (own := RX6) (by decide) rfl (Nat.le_of_ble_eq_true rfl) ?_
  intro p e s m args below meth c C hE hin
  unfold J_X6_lineOf at h
  show jW p l e ({ frames := 8, cells := 0, slots := 0, locals := 184 } : Room) s m args below meth c g (jQ below g o τ args s 0 0) 0 0 0 [(0, .ref a0), (1, .int v1), (2, .int v2)] [] σ
  refine r_aload_n C (x := some a0) 1 rfl 0 dX6_lineOf_0 rfl ?_
  refine r_aload_n C (x := some a0) 2 rfl 0 dX6_lineOf_1 rfl ?_
  refine r_iload_n C 3 rfl 1 dX6_lineOf_2 rfl ?_
  refine r_iload_n C 4 rfl 2 dX6_lineOf_3 rfl ?_
  refine r_callV C (ci := 6) mm_X6_174 im_yX6_isWord se_yX6_isWord rfl 7 0 0 rfl rfl rfl dX6_lineOf_4 rfl rfl (As := [.int v1, .int v2]) rfl rfl (Nat.le_of_ble_eq_true rfl) ⟨Nat.le_of_ble_eq_true rfl, Nat.le_of_ble_eq_true rfl⟩ ⟨(Nat.le_of_ble_eq_true rfl), (Nat.le_of_ble_eq_true rfl)⟩ (fun o t h => k_X6_isWord l hst g _ _ _ _ o t h) h (fun w2 t1 h => ?_) (fun E t h => r_out C (fun x hx => (hE x hx).elim) (Nat.le_refl _) (Nat.le_refl _) h)
  replace h := jvI_some h
  obtain ⟨x3, rfl, h⟩ := h
  obtain ⟨j15, hj15E, h⟩ := jj_some h
  have hj15 : ∀ (x4 : Int32) (t5 : Hp), j15 x4 t5 = some (o, τ) → jW p l e ({ frames := 8, cells := 0, slots := 0, locals := 184 } : Room) s m args below meth c g (jQ below g o τ args s 0 0) 0 0 15 [(0, .ref a0), (1, .int v1), (2, .int v2)] [.int x4, .ref a0] t5 := by
    subst hj15E
    intro x4 t5 h
    refine r_callV C (ci := 6) mm_X6_84 im_yX6_goesOn se_yX6_goesOn rfl 18 0 0 rfl rfl rfl dX6_lineOf_15 rfl rfl (As := [.int x4]) rfl rfl (Nat.le_of_ble_eq_true rfl) ⟨Nat.le_of_ble_eq_true rfl, Nat.le_of_ble_eq_true rfl⟩ ⟨(Nat.le_of_ble_eq_true rfl), (Nat.le_of_ble_eq_true rfl)⟩ (fun o t h => k_X6_goesOn l hst g _ _ _ o t h) h (fun w7 t6 h => ?_) (fun E t h => r_out C (fun x hx => (hE x hx).elim) (Nat.le_refl _) (Nat.le_refl _) h)
    replace h := jvI_some h
    obtain ⟨x8, rfl, h⟩ := h
    refine r_if_eq C 30 21 rfl dX6_lineOf_18 (by decide) h (fun h => ?_) (fun h => ?_)
    · refine r_iconst C (v := 0) 31 rfl dX6_lineOf_30 (by decide) ?_
      exact r_iret C dX6_lineOf_31 (Nat.le_refl _) (Nat.le_refl _) h
    · refine r_aload_n C (x := some a0) 22 rfl 0 dX6_lineOf_21 rfl ?_
      refine r_iload_n C 23 rfl 1 dX6_lineOf_22 rfl ?_
      refine r_iload_n C 24 rfl 2 dX6_lineOf_23 rfl ?_
      refine r_callV C (ci := 6) mm_X6_187 im_yX6_breaks se_yX6_breaks rfl 27 0 0 rfl rfl rfl dX6_lineOf_24 rfl rfl (As := [.int v1, .int v2]) rfl rfl (Nat.le_of_ble_eq_true rfl) ⟨Nat.le_of_ble_eq_true rfl, Nat.le_of_ble_eq_true rfl⟩ ⟨(Nat.le_of_ble_eq_true rfl), (Nat.le_of_ble_eq_true rfl)⟩ (fun o t h => k_X6_breaks l hst g _ _ _ _ o t h) h (fun w10 t9 h => ?_) (fun E t h => r_out C (fun x hx => (hE x hx).elim) (Nat.le_refl _) (Nat.le_refl _) h)
      replace h := jvI_some h
      obtain ⟨x11, rfl, h⟩ := h
      refine r_goto C 31 dX6_lineOf_27 (by decide) ?_
      exact r_iret C dX6_lineOf_31 (Nat.le_refl _) (Nat.le_refl _) h
  clear hj15E
  refine r_if_eq C 14 10 rfl dX6_lineOf_7 (by decide) h (fun h => ?_) (fun h => ?_)
  · refine r_iconst C (v := 1) 15 rfl dX6_lineOf_14 (by decide) ?_
    exact hj15 1 t1 h
  · refine r_iconst C (v := 0) 11 rfl dX6_lineOf_10 (by decide) ?_
    refine r_goto C 15 dX6_lineOf_11 (by decide) ?_
    exact hj15 0 t1 h

def J_X6_isEmbossed_L42b   (rc : Nat → Int32 → Int32 → Int32 → Int32 → Hp → jR) (a0 : Nat) (v2 : Int32) (v3 : Int32) (v4 : Int32) (v5 : Int32) (t0 : Hp) : jR := jgR t0 a0 6 26 (fun r6 => jdr r6 (fun b7 => jaI t0 b7 v2 (fun x8 => (if x8 ≤ v5 then jrt .boolean v4 t0 else (if v4 = 0 then jrt .boolean v4 t0 else jgR t0 a0 6 16 (fun r9 => jdr r9 (fun b10 => jaI t0 b10 ((40 * v3) + v5) (fun x11 => jgR t0 a0 6 25 (fun r12 => jdr r12 (fun b13 => jaI t0 b13 ((40 * v2) + v5) (fun x14 => jj (fun (x15 : Int32) (t16 : Hp) => rc a0 v2 v3 x15 (v5 + 1) t16) (fun j90 => (if x11 = x14 then j90 1 t0 else j90 0 t0)))))))))))))
def J_X6_isEmbossed_L42   : Nat → Nat → Int32 → Int32 → Int32 → Int32 → Hp → jR
  | 0 => fun _ _ _ _ _ _ => none
  | n + 1 => J_X6_isEmbossed_L42b   (J_X6_isEmbossed_L42   n)
def J_X6_isEmbossed  (a0 : Nat) (v1 : Int32) (v2 : Int32) (σ : Hp) : jR := jgR σ a0 6 18 (fun r1 => jdr r1 (fun b2 => jaI σ b2 v1 (fun x3 => jj (fun (x4 : Int32) (t5 : Hp) => J_X6_isEmbossed_L42   jN a0 v2 ((100 * v1) + v2) x4 0 t5) (fun j37 => jj (fun (t17 : Hp) => j37 0 t17) (fun j36 => (if x3 ≤ v2 then j36 σ else jgR σ a0 6 17 (fun r18 => jdr r18 (fun b19 => jaI σ b19 ((100 * v1) + v2) (fun x20 => jgR σ a0 6 26 (fun r21 => jdr r21 (fun b22 => jaI σ b22 v2 (fun x23 => (if x20 = x23 then j37 1 σ else j36 σ)))))))))))))
set_option maxHeartbeats 4000000 in
set_option maxRecDepth 100000 in
theorem w_X6_isEmbossed_L42 (l : Launch) (hst : l.stackTraces = false) {p : Program} {e : Env} {s : State} {m : MethodId} {args : Array Value} {below : List Frame} {meth : Method} {c : Code} {g : jG} {o : jO} {τ : Hp}  (C : jC p l s m args meth c g RX6 cX6_isEmbossed 6 (some FieldType.boolean)) (hE : ∀ x ∈ c.exceptionTable.toList, False)  : ∀ (n : Nat) (a0 : Nat) (v2 : Int32) (v3 : Int32) (v4 : Int32) (v5 : Int32) (t0 : Hp), J_X6_isEmbossed_L42   n a0 v2 v3 v4 v5 t0 = some (o, τ) → jW p l e ({ frames := 1, cells := 0, slots := 0, locals := 12 } : Room) s m args below meth c g (jQ below g o τ args s 0 0) 0 0 42 [(0, .ref a0), (2, .int v2), (3, .int v3), (4, .int v4), (5, .int v5)] [] t0 := by
  intro n
  induction n with
  | zero => intro a0 v2 v3 v4 v5 t0 h; cases h
  | succ n ih =>
    intro a0 v2 v3 v4 v5 t0 h
    have h : J_X6_isEmbossed_L42b   (J_X6_isEmbossed_L42   n) a0 v2 v3 v4 v5 t0 = some (o, τ) := h
    unfold J_X6_isEmbossed_L42b at h
    refine r_iload C 44 rfl 4 dX6_isEmbossed_42 rfl ?_
    refine r_aload_n C (x := some a0) 45 rfl 0 dX6_isEmbossed_44 rfl ?_
    refine r_getR C 48 rfl ff_X6_71 dX6_isEmbossed_45 h (fun r6 h => ?_)
    refine r_iload_n C 49 rfl 1 dX6_isEmbossed_48 rfl ?_
    replace h := jdr_some h
    obtain ⟨b7, hr, h⟩ := h
    rw [hr]
    refine r_iald C 50 rfl dX6_isEmbossed_49 h (fun x8 h => ?_)
    refine r_icmp_ge C 98 53 rfl dX6_isEmbossed_50 (by decide) h (fun h => ?_) (fun h => ?_)
    · refine r_iload C 100 rfl 3 dX6_isEmbossed_98 rfl ?_
      exact r_zret C (fun _ => rfl) dX6_isEmbossed_100 (Nat.le_refl _) (Nat.le_refl _) h
    · refine r_iload C 55 rfl 3 dX6_isEmbossed_53 rfl ?_
      refine r_if_eq C 98 58 rfl dX6_isEmbossed_55 (by decide) h (fun h => ?_) (fun h => ?_)
      · refine r_iload C 100 rfl 3 dX6_isEmbossed_98 rfl ?_
        exact r_zret C (fun _ => rfl) dX6_isEmbossed_100 (Nat.le_refl _) (Nat.le_refl _) h
      · refine r_aload_n C (x := some a0) 59 rfl 0 dX6_isEmbossed_58 rfl ?_
        refine r_getR C 62 rfl ff_X6_44 dX6_isEmbossed_59 h (fun r9 h => ?_)
        refine r_bipush C (v := 40) 64 rfl dX6_isEmbossed_62 (by decide) ?_
        refine r_iload_n C 65 rfl 2 dX6_isEmbossed_64 rfl ?_
        refine r_imul C 66 rfl dX6_isEmbossed_65 ?_
        refine r_iload C 68 rfl 4 dX6_isEmbossed_66 rfl ?_
        refine r_iadd C 69 rfl dX6_isEmbossed_68 ?_
        replace h := jdr_some h
        obtain ⟨b10, hr, h⟩ := h
        rw [hr]
        refine r_iald C 70 rfl dX6_isEmbossed_69 h (fun x11 h => ?_)
        refine r_aload_n C (x := some a0) 71 rfl 0 dX6_isEmbossed_70 rfl ?_
        refine r_getR C 74 rfl ff_X6_68 dX6_isEmbossed_71 h (fun r12 h => ?_)
        refine r_bipush C (v := 40) 76 rfl dX6_isEmbossed_74 (by decide) ?_
        refine r_iload_n C 77 rfl 1 dX6_isEmbossed_76 rfl ?_
        refine r_imul C 78 rfl dX6_isEmbossed_77 ?_
        refine r_iload C 80 rfl 4 dX6_isEmbossed_78 rfl ?_
        refine r_iadd C 81 rfl dX6_isEmbossed_80 ?_
        replace h := jdr_some h
        obtain ⟨b13, hr, h⟩ := h
        rw [hr]
        refine r_iald C 82 rfl dX6_isEmbossed_81 h (fun x14 h => ?_)
        obtain ⟨j90, hj90E, h⟩ := jj_some h
        have hj90 : ∀ (x15 : Int32) (t16 : Hp), j90 x15 t16 = some (o, τ) → jW p l e ({ frames := 1, cells := 0, slots := 0, locals := 12 } : Room) s m args below meth c g (jQ below g o τ args s 0 0) 0 0 90 [(0, .ref a0), (2, .int v2), (3, .int v3), (5, .int v5)] [.int x15] t16 := by
          subst hj90E
          intro x15 t16 h
          refine r_istore C 92 rfl [(4, .int x15), (0, .ref a0), (2, .int v2), (3, .int v3), (5, .int v5)] dX6_isEmbossed_90 (by decide) rfl ?_
          refine r_iinc C (v := v5 + 1) 95 rfl 4 [(5, .int (v5 + 1)), (4, .int x15), (0, .ref a0), (2, .int v2), (3, .int v3)] dX6_isEmbossed_92 rfl rfl (by decide) rfl ?_
          refine r_goto C 42 dX6_isEmbossed_95 (by decide) ?_
          refine r_lv [2, 3, 4, 1, 0] rfl ?_
          exact ih a0 v2 v3 x15 (v5 + 1) t16 h
        clear hj90E
        refine r_icmp_ne C 89 85 rfl dX6_isEmbossed_82 (by decide) h (fun h => ?_) (fun h => ?_)
        · refine r_iconst C (v := 0) 90 rfl dX6_isEmbossed_89 (by decide) ?_
          refine r_lv [0, 1, 2, 4] rfl ?_
          exact hj90 0 t0 h
        · refine r_iconst C (v := 1) 86 rfl dX6_isEmbossed_85 (by decide) ?_
          refine r_goto C 90 dX6_isEmbossed_86 (by decide) ?_
          refine r_lv [0, 1, 2, 4] rfl ?_
          exact hj90 1 t0 h
set_option maxHeartbeats 4000000 in
set_option maxRecDepth 100000 in
theorem k_X6_isEmbossed (l : Launch) (hst : l.stackTraces = false) (g : jG)   (a0 : Nat) (v1 : Int32) (v2 : Int32) (σ : Hp) (o : jO) (τ : Hp) (h : J_X6_isEmbossed a0 v1 v2 σ = some (o, τ)) : jMet l g yX6_isEmbossed (Cond.code yX6_isEmbossed cX6_isEmbossed 6 (some FieldType.boolean) :: gT) ({ frames := 1, cells := 0, slots := 0, locals := 12 } : Room) 0 0 [.ref a0, .int v1, .int v2] σ o τ := by
  refine j_start l hst (own := RX6) (by decide) rfl (Nat.le_of_ble_eq_true rfl) ?_
  intro p e s m args below meth c C hE hin
  unfold J_X6_isEmbossed at h
  show jW p l e ({ frames := 1, cells := 0, slots := 0, locals := 12 } : Room) s m args below meth c g (jQ below g o τ args s 0 0) 0 0 0 [(0, .ref a0), (1, .int v1), (2, .int v2)] [] σ
  refine r_bipush C (v := 100) 2 rfl dX6_isEmbossed_0 (by decide) ?_
  refine r_iload_n C 3 rfl 1 dX6_isEmbossed_2 rfl ?_
  refine r_imul C 4 rfl dX6_isEmbossed_3 ?_
  refine r_iload_n C 5 rfl 2 dX6_isEmbossed_4 rfl ?_
  refine r_iadd C 6 rfl dX6_isEmbossed_5 ?_
  refine r_istore_n C 7 rfl [(3, .int ((100 * v1) + v2)), (0, .ref a0), (1, .int v1), (2, .int v2)] dX6_isEmbossed_6 (by decide) rfl ?_
  refine r_iload_n C 8 rfl 3 dX6_isEmbossed_7 rfl ?_
  refine r_aload_n C (x := some a0) 9 rfl 1 dX6_isEmbossed_8 rfl ?_
  refine r_getR C 12 rfl ff_X6_50 dX6_isEmbossed_9 h (fun r1 h => ?_)
  refine r_iload_n C 13 rfl 2 dX6_isEmbossed_12 rfl ?_
  replace h := jdr_some h
  obtain ⟨b2, hr, h⟩ := h
  rw [hr]
  refine r_iald C 14 rfl dX6_isEmbossed_13 h (fun x3 h => ?_)
  obtain ⟨j37, hj37E, h⟩ := jj_some h
  have hj37 : ∀ (x4 : Int32) (t5 : Hp), j37 x4 t5 = some (o, τ) → jW p l e ({ frames := 1, cells := 0, slots := 0, locals := 12 } : Room) s m args below meth c g (jQ below g o τ args s 0 0) 0 0 37 [(0, .ref a0), (2, .int v2), (3, .int ((100 * v1) + v2))] [.int x4] t5 := by
    subst hj37E
    intro x4 t5 h
    refine r_istore C 39 rfl [(4, .int x4), (0, .ref a0), (2, .int v2), (3, .int ((100 * v1) + v2))] dX6_isEmbossed_37 (by decide) rfl ?_
    refine r_iconst C (v := 0) 40 rfl dX6_isEmbossed_39 (by decide) ?_
    refine r_istore C 42 rfl [(5, .int 0), (4, .int x4), (0, .ref a0), (2, .int v2), (3, .int ((100 * v1) + v2))] dX6_isEmbossed_40 (by decide) rfl ?_
    refine r_lv [2, 3, 4, 1, 0] rfl ?_
    refine w_X6_isEmbossed_L42 l hst  C hE  jN a0 v2 ((100 * v1) + v2) x4 0 t5 h
  clear hj37E
  obtain ⟨j36, hj36E, h⟩ := jj_some h
  have hj36 : ∀ (t17 : Hp), j36 t17 = some (o, τ) → jW p l e ({ frames := 1, cells := 0, slots := 0, locals := 12 } : Room) s m args below meth c g (jQ below g o τ args s 0 0) 0 0 36 [(0, .ref a0), (2, .int v2), (3, .int ((100 * v1) + v2))] [] t17 := by
    subst hj36E
    intro t17 h
    refine r_iconst C (v := 0) 37 rfl dX6_isEmbossed_36 (by decide) ?_
    exact hj37 0 t17 h
  clear hj36E
  refine r_icmp_ge C 36 17 rfl dX6_isEmbossed_14 (by decide) h (fun h => ?_) (fun h => ?_)
  · refine r_lv [1, 3, 0] rfl ?_
    exact hj36 σ h
  · refine r_aload_n C (x := some a0) 18 rfl 1 dX6_isEmbossed_17 rfl ?_
    refine r_getR C 21 rfl ff_X6_47 dX6_isEmbossed_18 h (fun r18 h => ?_)
    refine r_iload_n C 22 rfl 0 dX6_isEmbossed_21 rfl ?_
    replace h := jdr_some h
    obtain ⟨b19, hr, h⟩ := h
    rw [hr]
    refine r_iald C 23 rfl dX6_isEmbossed_22 h (fun x20 h => ?_)
    refine r_aload_n C (x := some a0) 24 rfl 1 dX6_isEmbossed_23 rfl ?_
    refine r_getR C 27 rfl ff_X6_71 dX6_isEmbossed_24 h (fun r21 h => ?_)
    refine r_iload_n C 28 rfl 3 dX6_isEmbossed_27 rfl ?_
    replace h := jdr_some h
    obtain ⟨b22, hr, h⟩ := h
    rw [hr]
    refine r_iald C 29 rfl dX6_isEmbossed_28 h (fun x23 h => ?_)
    refine r_icmp_ne C 36 32 rfl dX6_isEmbossed_29 (by decide) h (fun h => ?_) (fun h => ?_)
    · refine r_lv [1, 3, 0] rfl ?_
      exact hj36 σ h
    · refine r_iconst C (v := 1) 33 rfl dX6_isEmbossed_32 (by decide) ?_
      refine r_goto C 37 dX6_isEmbossed_33 (by decide) ?_
      refine r_lv [1, 3, 0] rfl ?_
      exact hj37 1 σ h

def J_X6_due_L17b  (k65 : Nat → Int32 → Int32 → Int32 → Int32 → Hp → jR) (rc : Nat → Int32 → Int32 → Int32 → Int32 → Int32 → Hp → jR) (a0 : Nat) (v1 : Int32) (v2 : Int32) (v3 : Int32) (v4 : Int32) (v5 : Int32) (t0 : Hp) : jR := jgR t0 a0 6 26 (fun r2 => jdr r2 (fun b3 => jaI t0 b3 v4 (fun x4 => (if x4 ≤ v5 then k65 a0 v1 v2 v3 v4 t0 else jcv t0 a0 6 (J_X6_isEmbossed a0 v1 v4 t0) (fun w6 t5 => jvI w6 (fun x7 => (if x7 = 0 then jgR t5 a0 6 25 (fun r8 => jdr r8 (fun b9 => jaI t5 b9 ((40 * v4) + v5) (fun x10 => rc a0 v1 v2 (v3 + ((x10 >>> (v2 &&& 31)) &&& 1)) v4 (v5 + 1) t5))) else k65 a0 v1 v2 v3 v4 t5))) (fun E t => some (.inr E, t))))))
def J_X6_due_L17  (k65 : Nat → Int32 → Int32 → Int32 → Int32 → Hp → jR) : Nat → Nat → Int32 → Int32 → Int32 → Int32 → Int32 → Hp → jR
  | 0 => fun _ _ _ _ _ _ _ => none
  | n + 1 => J_X6_due_L17b  k65 (J_X6_due_L17  k65 n)
def J_X6_due_L5b   (rc : Nat → Int32 → Int32 → Int32 → Int32 → Hp → jR) (a0 : Nat) (v1 : Int32) (v2 : Int32) (v3 : Int32) (v4 : Int32) (t0 : Hp) : jR := jgI t0 a0 6 27 (fun x1 => (if x1 ≤ v4 then some (.inl (some (.int v3)), t0) else J_X6_due_L17  (fun (x11 : Nat) (x12 : Int32) (x13 : Int32) (x14 : Int32) (x15 : Int32) (t16 : Hp) => rc x11 x12 x13 x14 (x15 + 1) t16) jN a0 v1 v2 v3 v4 0 t0))
def J_X6_due_L5   : Nat → Nat → Int32 → Int32 → Int32 → Int32 → Hp → jR
  | 0 => fun _ _ _ _ _ _ => none
  | n + 1 => J_X6_due_L5b   (J_X6_due_L5   n)
def J_X6_due  (a0 : Nat) (v1 : Int32) (v2 : Int32) (σ : Hp) : jR := J_X6_due_L5   jN a0 v1 v2 0 0 σ
set_option maxHeartbeats 4000000 in
set_option maxRecDepth 100000 in
theorem w_X6_due_L17 (l : Launch) (hst : l.stackTraces = false) {p : Program} {e : Env} {s : State} {m : MethodId} {args : Array Value} {below : List Frame} {meth : Method} {c : Code} {g : jG} {o : jO} {τ : Hp}  (C : jC p l s m args meth c g RX6 cX6_due 6 (some FieldType.int)) (hE : ∀ x ∈ c.exceptionTable.toList, False) (k65 : Nat → Int32 → Int32 → Int32 → Int32 → Hp → jR) (hk65 : ∀ (a0x : Nat) (v1x : Int32) (v2x : Int32) (v3x : Int32) (v4x : Int32) (tx : Hp), k65 a0x v1x v2x v3x v4x tx = some (o, τ) → jW p l e ({ frames := 2, cells := 0, slots := 0, locals := 37 } : Room) s m args below meth c g (jQ below g o τ args s 0 0) 0 0 65 [(0, .ref a0x), (1, .int v1x), (2, .int v2x), (3, .int v3x), (4, .int v4x)] [] tx) : ∀ (n : Nat) (a0 : Nat) (v1 : Int32) (v2 : Int32) (v3 : Int32) (v4 : Int32) (v5 : Int32) (t0 : Hp), J_X6_due_L17  k65 n a0 v1 v2 v3 v4 v5 t0 = some (o, τ) → jW p l e ({ frames := 2, cells := 0, slots := 0, locals := 37 } : Room) s m args below meth c g (jQ below g o τ args s 0 0) 0 0 17 [(0, .ref a0), (1, .int v1), (2, .int v2), (3, .int v3), (4, .int v4), (5, .int v5)] [] t0 := by
  intro n
  induction n with
  | zero => intro a0 v1 v2 v3 v4 v5 t0 h; cases h
  | succ n ih =>
    intro a0 v1 v2 v3 v4 v5 t0 h
    have h : J_X6_due_L17b  k65 (J_X6_due_L17  k65 n) a0 v1 v2 v3 v4 v5 t0 = some (o, τ) := h
    unfold J_X6_due_L17b at h
    refine r_iload C 19 rfl 5 dX6_due_17 rfl ?_
    refine r_aload_n C (x := some a0) 20 rfl 0 dX6_due_19 rfl ?_
    refine r_getR C 23 rfl ff_X6_71 dX6_due_20 h (fun r2 h => ?_)
    refine r_iload C 25 rfl 4 dX6_due_23 rfl ?_
    replace h := jdr_some h
    obtain ⟨b3, hr, h⟩ := h
    rw [hr]
    refine r_iald C 26 rfl dX6_due_25 h (fun x4 h => ?_)
    refine r_icmp_ge C 65 29 rfl dX6_due_26 (by decide) h (fun h => ?_) (fun h => ?_)
    · refine r_lv [0, 1, 2, 3, 4] rfl ?_
      exact hk65 a0 v1 v2 v3 v4 t0 h
    · refine r_aload_n C (x := some a0) 30 rfl 0 dX6_due_29 rfl ?_
      refine r_iload_n C 31 rfl 1 dX6_due_30 rfl ?_
      refine r_iload C 33 rfl 4 dX6_due_31 rfl ?_
      refine r_callV C (ci := 6) mm_X6_190 im_yX6_isEmbossed se_yX6_isEmbossed rfl 36 0 0 rfl rfl rfl dX6_due_33 rfl rfl (As := [.int v1, .int v4]) rfl rfl (Nat.le_of_ble_eq_true rfl) ⟨Nat.le_of_ble_eq_true rfl, Nat.le_of_ble_eq_true rfl⟩ ⟨(Nat.le_of_ble_eq_true rfl), (Nat.le_of_ble_eq_true rfl)⟩ (fun o t h => k_X6_isEmbossed l hst g _ _ _ _ o t h) h (fun w6 t5 h => ?_) (fun E t h => r_out C (fun x hx => (hE x hx).elim) (Nat.le_refl _) (Nat.le_refl _) h)
      replace h := jvI_some h
      obtain ⟨x7, rfl, h⟩ := h
      refine r_if_ne C 65 39 rfl dX6_due_36 (by decide) h (fun h => ?_) (fun h => ?_)
      · refine r_lv [0, 1, 2, 3, 4] rfl ?_
        exact hk65 a0 v1 v2 v3 v4 t5 h
      · refine r_iload_n C 40 rfl 3 dX6_due_39 rfl ?_
        refine r_aload_n C (x := some a0) 41 rfl 0 dX6_due_40 rfl ?_
        refine r_getR C 44 rfl ff_X6_68 dX6_due_41 h (fun r8 h => ?_)
        refine r_bipush C (v := 40) 46 rfl dX6_due_44 (by decide) ?_
        refine r_iload C 48 rfl 4 dX6_due_46 rfl ?_
        refine r_imul C 49 rfl dX6_due_48 ?_
        refine r_iload C 51 rfl 5 dX6_due_49 rfl ?_
        refine r_iadd C 52 rfl dX6_due_51 ?_
        replace h := jdr_some h
        obtain ⟨b9, hr, h⟩ := h
        rw [hr]
        refine r_iald C 53 rfl dX6_due_52 h (fun x10 h => ?_)
        refine r_iload_n C 54 rfl 2 dX6_due_53 rfl ?_
        refine r_ishr C 55 rfl dX6_due_54 ?_
        refine r_iconst C (v := 1) 56 rfl dX6_due_55 (by decide) ?_
        refine r_iand C 57 rfl dX6_due_56 ?_
        refine r_iadd C 58 rfl dX6_due_57 ?_
        refine r_istore_n C 59 rfl [(3, .int (v3 + ((x10 >>> (v2 &&& 31)) &&& 1))), (0, .ref a0), (1, .int v1), (2, .int v2), (4, .int v4), (5, .int v5)] dX6_due_58 (by decide) rfl ?_
        refine r_iinc C (v := v5 + 1) 62 rfl 5 [(5, .int (v5 + 1)), (3, .int (v3 + ((x10 >>> (v2 &&& 31)) &&& 1))), (0, .ref a0), (1, .int v1), (2, .int v2), (4, .int v4)] dX6_due_59 rfl rfl (by decide) rfl ?_
        refine r_goto C 17 dX6_due_62 (by decide) ?_
        refine r_lv [2, 3, 4, 1, 5, 0] rfl ?_
        exact ih a0 v1 v2 (v3 + ((x10 >>> (v2 &&& 31)) &&& 1)) v4 (v5 + 1) t5 h
set_option maxHeartbeats 4000000 in
set_option maxRecDepth 100000 in
theorem w_X6_due_L5 (l : Launch) (hst : l.stackTraces = false) {p : Program} {e : Env} {s : State} {m : MethodId} {args : Array Value} {below : List Frame} {meth : Method} {c : Code} {g : jG} {o : jO} {τ : Hp}  (C : jC p l s m args meth c g RX6 cX6_due 6 (some FieldType.int)) (hE : ∀ x ∈ c.exceptionTable.toList, False)  : ∀ (n : Nat) (a0 : Nat) (v1 : Int32) (v2 : Int32) (v3 : Int32) (v4 : Int32) (t0 : Hp), J_X6_due_L5   n a0 v1 v2 v3 v4 t0 = some (o, τ) → jW p l e ({ frames := 2, cells := 0, slots := 0, locals := 37 } : Room) s m args below meth c g (jQ below g o τ args s 0 0) 0 0 5 [(0, .ref a0), (1, .int v1), (2, .int v2), (3, .int v3), (4, .int v4)] [] t0 := by
  intro n
  induction n with
  | zero => intro a0 v1 v2 v3 v4 t0 h; cases h
  | succ n ih =>
    intro a0 v1 v2 v3 v4 t0 h
    have h : J_X6_due_L5b   (J_X6_due_L5   n) a0 v1 v2 v3 v4 t0 = some (o, τ) := h
    unfold J_X6_due_L5b at h
    refine r_iload C 7 rfl 4 dX6_due_5 rfl ?_
    refine r_aload_n C (x := some a0) 8 rfl 0 dX6_due_7 rfl ?_
    refine r_getI C 11 rfl ff_X6_177 dX6_due_8 h (fun x1 h => ?_)
    refine r_icmp_ge C 71 14 rfl dX6_due_11 (by decide) h (fun h => ?_) (fun h => ?_)
    · refine r_iload_n C 72 rfl 3 dX6_due_71 rfl ?_
      exact r_iret C dX6_due_72 (Nat.le_refl _) (Nat.le_refl _) h
    · refine r_iconst C (v := 0) 15 rfl dX6_due_14 (by decide) ?_
      refine r_istore C 17 rfl [(5, .int 0), (0, .ref a0), (1, .int v1), (2, .int v2), (3, .int v3), (4, .int v4)] dX6_due_15 (by decide) rfl ?_
      refine r_lv [1, 2, 3, 4, 5, 0] rfl ?_
      refine w_X6_due_L17 l hst  C hE _ (fun x11 x12 x13 x14 x15 t16 h => ?_) jN a0 v1 v2 v3 v4 0 t0 h
      refine r_iinc C (v := x15 + 1) 68 rfl 4 [(4, .int (x15 + 1)), (0, .ref x11), (1, .int x12), (2, .int x13), (3, .int x14)] dX6_due_65 rfl rfl (by decide) rfl ?_
      refine r_goto C 5 dX6_due_68 (by decide) ?_
      refine r_lv [1, 2, 3, 4, 0] rfl ?_
      exact ih x11 x12 x13 x14 (x15 + 1) t16 h
set_option maxHeartbeats 4000000 in
set_option maxRecDepth 100000 in
theorem k_X6_due (l : Launch) (hst : l.stackTraces = false) (g : jG)   (a0 : Nat) (v1 : Int32) (v2 : Int32) (σ : Hp) (o : jO) (τ : Hp) (h : J_X6_due a0 v1 v2 σ = some (o, τ)) : jMet l g yX6_due (Cond.code yX6_due cX6_due 6 (some FieldType.int) :: gT) ({ frames := 2, cells := 0, slots := 0, locals := 37 } : Room) 0 0 [.ref a0, .int v1, .int v2] σ o τ := by
  refine j_start l hst (own := RX6) (by decide) rfl (Nat.le_of_ble_eq_true rfl) ?_
  intro p e s m args below meth c C hE hin
  unfold J_X6_due at h
  show jW p l e ({ frames := 2, cells := 0, slots := 0, locals := 37 } : Room) s m args below meth c g (jQ below g o τ args s 0 0) 0 0 0 [(0, .ref a0), (1, .int v1), (2, .int v2)] [] σ
  refine r_iconst C (v := 0) 1 rfl dX6_due_0 (by decide) ?_
  refine r_istore_n C 2 rfl [(3, .int 0), (0, .ref a0), (1, .int v1), (2, .int v2)] dX6_due_1 (by decide) rfl ?_
  refine r_iconst C (v := 0) 3 rfl dX6_due_2 (by decide) ?_
  refine r_istore C 5 rfl [(4, .int 0), (3, .int 0), (0, .ref a0), (1, .int v1), (2, .int v2)] dX6_due_3 (by decide) rfl ?_
  refine r_lv [2, 3, 4, 1, 0] rfl ?_
  refine w_X6_due_L5 l hst  C hE  jN a0 v1 v2 0 0 σ h

def J_X6_isWorn_L4b   (rc : Nat → Int32 → Int32 → Int32 → Hp → jR) (a0 : Nat) (v1 : Int32) (v2 : Int32) (v3 : Int32) (t0 : Hp) : jR := (if 6 ≤ v3 then jrt .boolean v2 t0 else jcv t0 a0 6 (J_X6_due a0 v1 v3 t0) (fun w2 t1 => jvI w2 (fun x3 => jj (fun (x4 : Int32) (t5 : Hp) => rc a0 v1 x4 (v3 + 1) t5) (fun j48 => jj (fun (t6 : Hp) => j48 1 t6) (fun j43 => (if v2 = 0 then jj (fun (t7 : Hp) => j48 0 t7) (fun j47 => (if x3 ≤ 0 then j47 t1 else jgR t1 a0 6 21 (fun r8 => jdr r8 (fun b9 => jaI t1 b9 v3 (fun x10 => jgI t1 a0 6 20 (fun x11 => (if (x10 + x3) ≤ x11 then j47 t1 else j43 t1))))))) else j43 t1))))) (fun E t => some (.inr E, t)))
def J_X6_isWorn_L4   : Nat → Nat → Int32 → Int32 → Int32 → Hp → jR
  | 0 => fun _ _ _ _ _ => none
  | n + 1 => J_X6_isWorn_L4b   (J_X6_isWorn_L4   n)
def J_X6_isWorn  (a0 : Nat) (v1 : Int32) (σ : Hp) : jR := J_X6_isWorn_L4   jN a0 v1 0 0 σ
set_option maxHeartbeats 4000000 in
set_option maxRecDepth 100000 in
theorem w_X6_isWorn_L4 (l : Launch) (hst : l.stackTraces = false) {p : Program} {e : Env} {s : State} {m : MethodId} {args : Array Value} {below : List Frame} {meth : Method} {c : Code} {g : jG} {o : jO} {τ : Hp}  (C : jC p l s m args meth c g RX6 cX6_isWorn 5 (some FieldType.boolean)) (hE : ∀ x ∈ c.exceptionTable.toList, False)  : ∀ (n : Nat) (a0 : Nat) (v1 : Int32) (v2 : Int32) (v3 : Int32) (t0 : Hp), J_X6_isWorn_L4   n a0 v1 v2 v3 t0 = some (o, τ) → jW p l e ({ frames := 3, cells := 0, slots := 0, locals := 62 } : Room) s m args below meth c g (jQ below g o τ args s 0 0) 0 0 4 [(0, .ref a0), (1, .int v1), (2, .int v2), (3, .int v3)] [] t0 := by
  intro n
  induction n with
  | zero => intro a0 v1 v2 v3 t0 h; cases h
  | succ n ih =>
    intro a0 v1 v2 v3 t0 h
    have h : J_X6_isWorn_L4b   (J_X6_isWorn_L4   n) a0 v1 v2 v3 t0 = some (o, τ) := h
    unfold J_X6_isWorn_L4b at h
    refine r_iload_n C 5 rfl 3 dX6_isWorn_4 rfl ?_
    refine r_bipush C (v := 6) 7 rfl dX6_isWorn_5 (by decide) ?_
    refine r_icmp_ge C 55 10 rfl dX6_isWorn_7 (by decide) h (fun h => ?_) (fun h => ?_)
    · refine r_iload_n C 56 rfl 2 dX6_isWorn_55 rfl ?_
      exact r_zret C (fun _ => rfl) dX6_isWorn_56 (Nat.le_refl _) (Nat.le_refl _) h
    · refine r_aload_n C (x := some a0) 11 rfl 0 dX6_isWorn_10 rfl ?_
      refine r_iload_n C 12 rfl 1 dX6_isWorn_11 rfl ?_
      refine r_iload_n C 13 rfl 3 dX6_isWorn_12 rfl ?_
      refine r_callV C (ci := 6) mm_X6_193 im_yX6_due se_yX6_due rfl 16 0 0 rfl rfl rfl dX6_isWorn_13 rfl rfl (As := [.int v1, .int v3]) rfl rfl (Nat.le_of_ble_eq_true rfl) ⟨Nat.le_of_ble_eq_true rfl, Nat.le_of_ble_eq_true rfl⟩ ⟨(Nat.le_of_ble_eq_true rfl), (Nat.le_of_ble_eq_true rfl)⟩ (fun o t h => k_X6_due l hst g _ _ _ _ o t h) h (fun w2 t1 h => ?_) (fun E t h => r_out C (fun x hx => (hE x hx).elim) (Nat.le_refl _) (Nat.le_refl _) h)
      replace h := jvI_some h
      obtain ⟨x3, rfl, h⟩ := h
      refine r_istore C 18 rfl [(4, .int x3), (0, .ref a0), (1, .int v1), (2, .int v2), (3, .int v3)] dX6_isWorn_16 (by decide) rfl ?_
      refine r_iload_n C 19 rfl 3 dX6_isWorn_18 rfl ?_
      obtain ⟨j48, hj48E, h⟩ := jj_some h
      have hj48 : ∀ (x4 : Int32) (t5 : Hp), j48 x4 t5 = some (o, τ) → jW p l e ({ frames := 3, cells := 0, slots := 0, locals := 62 } : Room) s m args below meth c g (jQ below g o τ args s 0 0) 0 0 48 [(0, .ref a0), (1, .int v1), (3, .int v3)] [.int x4] t5 := by
        subst hj48E
        intro x4 t5 h
        refine r_istore_n C 49 rfl [(2, .int x4), (0, .ref a0), (1, .int v1), (3, .int v3)] dX6_isWorn_48 (by decide) rfl ?_
        refine r_iinc C (v := v3 + 1) 52 rfl 3 [(3, .int (v3 + 1)), (2, .int x4), (0, .ref a0), (1, .int v1)] dX6_isWorn_49 rfl rfl (by decide) rfl ?_
        refine r_goto C 4 dX6_isWorn_52 (by decide) ?_
        refine r_lv [2, 3, 1, 0] rfl ?_
        exact ih a0 v1 x4 (v3 + 1) t5 h
      clear hj48E
      obtain ⟨j43, hj43E, h⟩ := jj_some h
      have hj43 : ∀ (t6 : Hp), j43 t6 = some (o, τ) → jW p l e ({ frames := 3, cells := 0, slots := 0, locals := 62 } : Room) s m args below meth c g (jQ below g o τ args s 0 0) 0 0 43 [(0, .ref a0), (1, .int v1), (3, .int v3)] [] t6 := by
        subst hj43E
        intro t6 h
        refine r_iconst C (v := 1) 44 rfl dX6_isWorn_43 (by decide) ?_
        refine r_goto C 48 dX6_isWorn_44 (by decide) ?_
        exact hj48 1 t6 h
      clear hj43E
      refine r_if_ne C 43 22 rfl dX6_isWorn_19 (by decide) h (fun h => ?_) (fun h => ?_)
      · refine r_lv [1, 2, 4] rfl ?_
        exact hj43 t1 h
      · refine r_iload C 24 rfl 0 dX6_isWorn_22 rfl ?_
        obtain ⟨j47, hj47E, h⟩ := jj_some h
        have hj47 : ∀ (t7 : Hp), j47 t7 = some (o, τ) → jW p l e ({ frames := 3, cells := 0, slots := 0, locals := 62 } : Room) s m args below meth c g (jQ below g o τ args s 0 0) 0 0 47 [(0, .ref a0), (1, .int v1), (3, .int v3)] [] t7 := by
          subst hj47E
          intro t7 h
          refine r_iconst C (v := 0) 48 rfl dX6_isWorn_47 (by decide) ?_
          exact hj48 0 t7 h
        clear hj47E
        refine r_if_le C 47 27 rfl dX6_isWorn_24 (by decide) h (fun h => ?_) (fun h => ?_)
        · refine r_lv [1, 2, 4] rfl ?_
          exact hj47 t1 h
        · refine r_aload_n C (x := some a0) 28 rfl 1 dX6_isWorn_27 rfl ?_
          refine r_getR C 31 rfl ff_X6_59 dX6_isWorn_28 h (fun r8 h => ?_)
          refine r_iload_n C 32 rfl 4 dX6_isWorn_31 rfl ?_
          replace h := jdr_some h
          obtain ⟨b9, hr, h⟩ := h
          rw [hr]
          refine r_iald C 33 rfl dX6_isWorn_32 h (fun x10 h => ?_)
          refine r_iload C 35 rfl 0 dX6_isWorn_33 rfl ?_
          refine r_iadd C 36 rfl dX6_isWorn_35 ?_
          refine r_aload_n C (x := some a0) 37 rfl 1 dX6_isWorn_36 rfl ?_
          refine r_getI C 40 rfl ff_X6_56 dX6_isWorn_37 h (fun x11 h => ?_)
          refine r_icmp_le C 47 43 rfl dX6_isWorn_40 (by decide) h (fun h => ?_) (fun h => ?_)
          · refine r_lv [1, 2, 4] rfl ?_
            exact hj47 t1 h
          · refine r_lv [1, 2, 4] rfl ?_
            exact hj43 t1 h
set_option maxHeartbeats 4000000 in
set_option maxRecDepth 100000 in
theorem k_X6_isWorn (l : Launch) (hst : l.stackTraces = false) (g : jG)   (a0 : Nat) (v1 : Int32) (σ : Hp) (o : jO) (τ : Hp) (h : J_X6_isWorn a0 v1 σ = some (o, τ)) : jMet l g yX6_isWorn (Cond.code yX6_isWorn cX6_isWorn 5 (some FieldType.boolean) :: gT) ({ frames := 3, cells := 0, slots := 0, locals := 62 } : Room) 0 0 [.ref a0, .int v1] σ o τ := by
  refine j_start l hst (own := RX6) (by decide) rfl (Nat.le_of_ble_eq_true rfl) ?_
  intro p e s m args below meth c C hE hin
  unfold J_X6_isWorn at h
  show jW p l e ({ frames := 3, cells := 0, slots := 0, locals := 62 } : Room) s m args below meth c g (jQ below g o τ args s 0 0) 0 0 0 [(0, .ref a0), (1, .int v1)] [] σ
  refine r_iconst C (v := 0) 1 rfl dX6_isWorn_0 (by decide) ?_
  refine r_istore_n C 2 rfl [(2, .int 0), (0, .ref a0), (1, .int v1)] dX6_isWorn_1 (by decide) rfl ?_
  refine r_iconst C (v := 0) 3 rfl dX6_isWorn_2 (by decide) ?_
  refine r_istore_n C 4 rfl [(3, .int 0), (2, .int 0), (0, .ref a0), (1, .int v1)] dX6_isWorn_3 (by decide) rfl ?_
  refine r_lv [2, 3, 1, 0] rfl ?_
  refine w_X6_isWorn_L4 l hst  C hE  jN a0 v1 0 0 σ h

def J_X6_emboss_L54b  (k84 : Nat → Int32 → Hp → jR) (rc : Nat → Int32 → Int32 → Hp → jR) (a0 : Nat) (v1 : Int32) (v4 : Int32) (t0 : Hp) : jR := (if 6 ≤ v4 then k84 a0 v1 t0 else jgR t0 a0 6 21 (fun r11 => jdr r11 (fun b12 => jaI t0 b12 v4 (fun x13 => jcv t0 a0 6 (J_X6_due a0 v1 v4 t0) (fun w15 t14 => jvI w15 (fun x16 => jsI t14 b12 v4 (x13 + x16) (fun t17 => rc a0 v1 (v4 + 1) t17))) (fun E t => some (.inr E, t))))))
def J_X6_emboss_L54  (k84 : Nat → Int32 → Hp → jR) : Nat → Nat → Int32 → Int32 → Hp → jR
  | 0 => fun _ _ _ _ => none
  | n + 1 => J_X6_emboss_L54b  k84 (J_X6_emboss_L54  k84 n)
def J_X6_emboss_L96b  (k149 : Nat → Int32 → Int32 → Int32 → Hp → jR) (rc : Nat → Int32 → Int32 → Int32 → Int32 → Int32 → Hp → jR) (a0 : Nat) (v1 : Int32) (v4 : Int32) (v5 : Int32) (v6 : Int32) (v7 : Int32) (t0 : Hp) : jR := jgI t0 a0 6 27 (fun x21 => (if x21 ≤ v7 then k149 a0 v1 v4 v5 t0 else jcv t0 a0 6 (J_X6_isEmbossed a0 v1 v7 t0) (fun w23 t22 => jvI w23 (fun x24 => jj (fun (x25 : Int32) (x26 : Int32) (x27 : Int32) (t28 : Hp) => rc a0 v1 x25 x26 x27 (v7 + 1) t28) (fun j143 => (if x24 = 0 then jj (fun (x29 : Int32) (t30 : Hp) => j143 (v4 + 1) (v5 + x29) (v7 / 4) t30) (fun j134 => (if (v7 / 4) = v6 then j134 0 t22 else j134 1 t22)) else j143 v4 v5 v6 t22)))) (fun E t => some (.inr E, t))))
def J_X6_emboss_L96  (k149 : Nat → Int32 → Int32 → Int32 → Hp → jR) : Nat → Nat → Int32 → Int32 → Int32 → Int32 → Int32 → Hp → jR
  | 0 => fun _ _ _ _ _ _ _ => none
  | n + 1 => J_X6_emboss_L96b  k149 (J_X6_emboss_L96  k149 n)
def J_X6_emboss_L183b  (k232 : Nat → Int32 → Int32 → Int32 → Int32 → Hp → jR) (rc : Nat → Int32 → Int32 → Int32 → Int32 → Int32 → Hp → jR) (a0 : Nat) (v1 : Int32) (v4 : Int32) (v5 : Int32) (v7 : Int32) (v8 : Int32) (t0 : Hp) : jR := jgR t0 a0 6 26 (fun r47 => jdr r47 (fun b48 => jaI t0 b48 v7 (fun x49 => (if x49 ≤ v8 then k232 a0 v1 v4 v5 v7 t0 else jgR t0 a0 6 16 (fun r50 => jgR t0 a0 6 25 (fun r51 => jdr r51 (fun b52 => jaI t0 b52 ((40 * v7) + v8) (fun x53 => jdr r50 (fun b54 => jsI t0 b54 ((40 * ((100 * v1) + v7)) + v8) x53 (fun t55 => rc a0 v1 v4 v5 v7 (v8 + 1) t55))))))))))
def J_X6_emboss_L183  (k232 : Nat → Int32 → Int32 → Int32 → Int32 → Hp → jR) : Nat → Nat → Int32 → Int32 → Int32 → Int32 → Int32 → Hp → jR
  | 0 => fun _ _ _ _ _ _ _ => none
  | n + 1 => J_X6_emboss_L183b  k232 (J_X6_emboss_L183  k232 n)
def J_X6_emboss_L152b   (rc : Nat → Int32 → Int32 → Int32 → Int32 → Hp → jR) (a0 : Nat) (v1 : Int32) (v4 : Int32) (v5 : Int32) (v7 : Int32) (t0 : Hp) : jR := jgI t0 a0 6 27 (fun x36 => (if x36 ≤ v7 then jgR t0 a0 6 18 (fun r37 => jgI t0 a0 6 27 (fun x38 => jdr r37 (fun b39 => jsI t0 b39 v1 x38 (fun t40 => some (.inl (some (.int ((100 * v5) + v4))), t40))))) else jgR t0 a0 6 17 (fun r41 => jgR t0 a0 6 26 (fun r42 => jdr r42 (fun b43 => jaI t0 b43 v7 (fun x44 => jdr r41 (fun b45 => jsI t0 b45 ((100 * v1) + v7) x44 (fun t46 => J_X6_emboss_L183  (fun (x56 : Nat) (x57 : Int32) (x58 : Int32) (x59 : Int32) (x60 : Int32) (t61 : Hp) => rc x56 x57 x58 x59 (x60 + 1) t61) jN a0 v1 v4 v5 v7 0 t46))))))))
def J_X6_emboss_L152   : Nat → Nat → Int32 → Int32 → Int32 → Int32 → Hp → jR
  | 0 => fun _ _ _ _ _ _ => none
  | n + 1 => J_X6_emboss_L152b   (J_X6_emboss_L152   n)
def J_X6_emboss  (a0 : Nat) (v1 : Int32) (σ : Hp) : jR := jcv σ a0 6 (J_X6_isText a0 v1 σ) (fun w2 t1 => jvI w2 (fun x3 => jj (fun (x4 : Int32) (t5 : Hp) => jj (fun (x6 : Int32) (t7 : Hp) => jcv t7 a0 6 (J_X6_goesOn a0 x6 t7) (fun w9 t8 => jvI w9 (fun x10 => (if x10 = 0 then some (.inl (some (.int 0)), t8) else J_X6_emboss_L54  (fun (x18 : Nat) (x19 : Int32) (t20 : Hp) => J_X6_emboss_L96  (fun (x31 : Nat) (x32 : Int32) (x33 : Int32) (x34 : Int32) (t35 : Hp) => J_X6_emboss_L152   jN x31 x32 x33 x34 0 t35) jN x18 x19 0 0 ((-1)) 0 t20) jN a0 v1 0 t8))) (fun E t => some (.inr E, t))) (fun j43 => (if x3 = 0 then j43 1 t5 else jcv t5 a0 6 (J_X6_isWorn a0 v1 t5) (fun w63 t62 => jvI w63 (fun x64 => (if x64 = 0 then j43 0 t62 else j43 2 t62))) (fun E t => some (.inr E, t))))) (fun j20 => (if x3 = 0 then j20 ((-1)) t1 else jcv t1 a0 6 (J_X6_breaks a0 v1 ((-1)) t1) (fun w66 t65 => jvI w66 (fun x67 => j20 x67 t65)) (fun E t => some (.inr E, t)))))) (fun E t => some (.inr E, t))
set_option maxHeartbeats 4000000 in
set_option maxRecDepth 100000 in
theorem w_X6_emboss_L54 (l : Launch) (hst : l.stackTraces = false) {p : Program} {e : Env} {s : State} {m : MethodId} {args : Array Value} {below : List Frame} {meth : Method} {c : Code} {g : jG} {o : jO} {τ : Hp}  (C : jC p l s m args meth c g RX6 cX6_emboss 9 (some FieldType.int)) (hE : ∀ x ∈ c.exceptionTable.toList, False) (k84 : Nat → Int32 → Hp → jR) (hk84 : ∀ (a0x : Nat) (v1x : Int32) (tx : Hp), k84 a0x v1x tx = some (o, τ) → jW p l e ({ frames := 8, cells := 0, slots := 0, locals := 184 } : Room) s m args below meth c g (jQ below g o τ args s 0 0) 0 0 84 [(0, .ref a0x), (1, .int v1x)] [] tx) : ∀ (n : Nat) (a0 : Nat) (v1 : Int32) (v4 : Int32) (t0 : Hp), J_X6_emboss_L54  k84 n a0 v1 v4 t0 = some (o, τ) → jW p l e ({ frames := 8, cells := 0, slots := 0, locals := 184 } : Room) s m args below meth c g (jQ below g o τ args s 0 0) 0 0 54 [(0, .ref a0), (1, .int v1), (4, .int v4)] [] t0 := by
  intro n
  induction n with
  | zero => intro a0 v1 v4 t0 h; cases h
  | succ n ih =>
    intro a0 v1 v4 t0 h
    have h : J_X6_emboss_L54b  k84 (J_X6_emboss_L54  k84 n) a0 v1 v4 t0 = some (o, τ) := h
    unfold J_X6_emboss_L54b at h
    refine r_iload C 56 rfl 2 dX6_emboss_54 rfl ?_
    refine r_bipush C (v := 6) 58 rfl dX6_emboss_56 (by decide) ?_
    refine r_icmp_ge C 84 61 rfl dX6_emboss_58 (by decide) h (fun h => ?_) (fun h => ?_)
    · refine r_lv [0, 1] rfl ?_
      exact hk84 a0 v1 t0 h
    · refine r_aload_n C (x := some a0) 62 rfl 0 dX6_emboss_61 rfl ?_
      refine r_getR C 65 rfl ff_X6_59 dX6_emboss_62 h (fun r11 h => ?_)
      refine r_iload C 67 rfl 2 dX6_emboss_65 rfl ?_
      replace h := jdr_some h
      obtain ⟨b12, hr, h⟩ := h
      rw [hr]
      refine r_dup2 C 68 rfl dX6_emboss_67 rfl rfl ?_
      refine r_iald C 69 rfl dX6_emboss_68 h (fun x13 h => ?_)
      refine r_aload_n C (x := some a0) 70 rfl 0 dX6_emboss_69 rfl ?_
      refine r_iload_n C 71 rfl 1 dX6_emboss_70 rfl ?_
      refine r_iload C 73 rfl 2 dX6_emboss_71 rfl ?_
      refine r_callV C (ci := 6) mm_X6_193 im_yX6_due se_yX6_due rfl 76 0 0 rfl rfl rfl dX6_emboss_73 rfl rfl (As := [.int v1, .int v4]) rfl rfl (Nat.le_of_ble_eq_true rfl) ⟨Nat.le_of_ble_eq_true rfl, Nat.le_of_ble_eq_true rfl⟩ ⟨(Nat.le_of_ble_eq_true rfl), (Nat.le_of_ble_eq_true rfl)⟩ (fun o t h => k_X6_due l hst g _ _ _ _ o t h) h (fun w15 t14 h => ?_) (fun E t h => r_out C (fun x hx => (hE x hx).elim) (Nat.le_refl _) (Nat.le_refl _) h)
      replace h := jvI_some h
      obtain ⟨x16, rfl, h⟩ := h
      refine r_iadd C 77 rfl dX6_emboss_76 ?_
      refine r_iast C 78 rfl dX6_emboss_77 h (fun t17 h => ?_)
      refine r_iinc C (v := v4 + 1) 81 rfl 2 [(4, .int (v4 + 1)), (0, .ref a0), (1, .int v1)] dX6_emboss_78 rfl rfl (by decide) rfl ?_
      refine r_goto C 54 dX6_emboss_81 (by decide) ?_
      refine r_lv [1, 2, 0] rfl ?_
      exact ih a0 v1 (v4 + 1) t17 h
set_option maxHeartbeats 4000000 in
set_option maxRecDepth 100000 in
theorem w_X6_emboss_L96 (l : Launch) (hst : l.stackTraces = false) {p : Program} {e : Env} {s : State} {m : MethodId} {args : Array Value} {below : List Frame} {meth : Method} {c : Code} {g : jG} {o : jO} {τ : Hp}  (C : jC p l s m args meth c g RX6 cX6_emboss 9 (some FieldType.int)) (hE : ∀ x ∈ c.exceptionTable.toList, False) (k149 : Nat → Int32 → Int32 → Int32 → Hp → jR) (hk149 : ∀ (a0x : Nat) (v1x : Int32) (v4x : Int32) (v5x : Int32) (tx : Hp), k149 a0x v1x v4x v5x tx = some (o, τ) → jW p l e ({ frames := 8, cells := 0, slots := 0, locals := 184 } : Room) s m args below meth c g (jQ below g o τ args s 0 0) 0 0 149 [(0, .ref a0x), (1, .int v1x), (4, .int v4x), (5, .int v5x)] [] tx) : ∀ (n : Nat) (a0 : Nat) (v1 : Int32) (v4 : Int32) (v5 : Int32) (v6 : Int32) (v7 : Int32) (t0 : Hp), J_X6_emboss_L96  k149 n a0 v1 v4 v5 v6 v7 t0 = some (o, τ) → jW p l e ({ frames := 8, cells := 0, slots := 0, locals := 184 } : Room) s m args below meth c g (jQ below g o τ args s 0 0) 0 0 96 [(0, .ref a0), (1, .int v1), (4, .int v4), (5, .int v5), (6, .int v6), (7, .int v7)] [] t0 := by
  intro n
  induction n with
  | zero => intro a0 v1 v4 v5 v6 v7 t0 h; cases h
  | succ n ih =>
    intro a0 v1 v4 v5 v6 v7 t0 h
    have h : J_X6_emboss_L96b  k149 (J_X6_emboss_L96  k149 n) a0 v1 v4 v5 v6 v7 t0 = some (o, τ) := h
    unfold J_X6_emboss_L96b at h
    refine r_iload C 98 rfl 5 dX6_emboss_96 rfl ?_
    refine r_aload_n C (x := some a0) 99 rfl 0 dX6_emboss_98 rfl ?_
    refine r_getI C 102 rfl ff_X6_177 dX6_emboss_99 h (fun x21 h => ?_)
    refine r_icmp_ge C 149 105 rfl dX6_emboss_102 (by decide) h (fun h => ?_) (fun h => ?_)
    · refine r_lv [0, 1, 2, 3] rfl ?_
      exact hk149 a0 v1 v4 v5 t0 h
    · refine r_aload_n C (x := some a0) 106 rfl 0 dX6_emboss_105 rfl ?_
      refine r_iload_n C 107 rfl 1 dX6_emboss_106 rfl ?_
      refine r_iload C 109 rfl 5 dX6_emboss_107 rfl ?_
      refine r_callV C (ci := 6) mm_X6_190 im_yX6_isEmbossed se_yX6_isEmbossed rfl 112 0 0 rfl rfl rfl dX6_emboss_109 rfl rfl (As := [.int v1, .int v7]) rfl rfl (Nat.le_of_ble_eq_true rfl) ⟨Nat.le_of_ble_eq_true rfl, Nat.le_of_ble_eq_true rfl⟩ ⟨(Nat.le_of_ble_eq_true rfl), (Nat.le_of_ble_eq_true rfl)⟩ (fun o t h => k_X6_isEmbossed l hst g _ _ _ _ o t h) h (fun w23 t22 h => ?_) (fun E t h => r_out C (fun x hx => (hE x hx).elim) (Nat.le_refl _) (Nat.le_refl _) h)
      replace h := jvI_some h
      obtain ⟨x24, rfl, h⟩ := h
      obtain ⟨j143, hj143E, h⟩ := jj_some h
      have hj143 : ∀ (x25 : Int32) (x26 : Int32) (x27 : Int32) (t28 : Hp), j143 x25 x26 x27 t28 = some (o, τ) → jW p l e ({ frames := 8, cells := 0, slots := 0, locals := 184 } : Room) s m args below meth c g (jQ below g o τ args s 0 0) 0 0 143 [(0, .ref a0), (1, .int v1), (4, .int x25), (5, .int x26), (6, .int x27), (7, .int v7)] [] t28 := by
        subst hj143E
        intro x25 x26 x27 t28 h
        refine r_iinc C (v := v7 + 1) 146 rfl 5 [(7, .int (v7 + 1)), (0, .ref a0), (1, .int v1), (4, .int x25), (5, .int x26), (6, .int x27)] dX6_emboss_143 rfl rfl (by decide) rfl ?_
        refine r_goto C 96 dX6_emboss_146 (by decide) ?_
        refine r_lv [1, 2, 3, 4, 5, 0] rfl ?_
        exact ih a0 v1 x25 x26 x27 (v7 + 1) t28 h
      clear hj143E
      refine r_if_ne C 143 115 rfl dX6_emboss_112 (by decide) h (fun h => ?_) (fun h => ?_)
      · exact hj143 v4 v5 v6 t22 h
      · refine r_iinc C (v := v4 + 1) 118 rfl 2 [(4, .int (v4 + 1)), (0, .ref a0), (1, .int v1), (5, .int v5), (6, .int v6), (7, .int v7)] dX6_emboss_115 rfl rfl (by decide) rfl ?_
        refine r_iload C 120 rfl 3 dX6_emboss_118 rfl ?_
        refine r_iload C 122 rfl 5 dX6_emboss_120 rfl ?_
        refine r_iconst C (v := 4) 123 rfl dX6_emboss_122 (by decide) ?_
        refine r_idiv C 124 rfl dX6_emboss_123 (by decide) ?_
        refine r_iload C 126 rfl 4 dX6_emboss_124 rfl ?_
        obtain ⟨j134, hj134E, h⟩ := jj_some h
        have hj134 : ∀ (x29 : Int32) (t30 : Hp), j134 x29 t30 = some (o, τ) → jW p l e ({ frames := 8, cells := 0, slots := 0, locals := 184 } : Room) s m args below meth c g (jQ below g o τ args s 0 0) 0 0 134 [(0, .ref a0), (1, .int v1), (4, .int (v4 + 1)), (7, .int v7)] [.int x29, .int v5] t30 := by
          subst hj134E
          intro x29 t30 h
          refine r_iadd C 135 rfl dX6_emboss_134 ?_
          refine r_istore C 137 rfl [(5, .int (v5 + x29)), (0, .ref a0), (1, .int v1), (4, .int (v4 + 1)), (7, .int v7)] dX6_emboss_135 (by decide) rfl ?_
          refine r_iload C 139 rfl 4 dX6_emboss_137 rfl ?_
          refine r_iconst C (v := 4) 140 rfl dX6_emboss_139 (by decide) ?_
          refine r_idiv C 141 rfl dX6_emboss_140 (by decide) ?_
          refine r_istore C 143 rfl [(6, .int (v7 / 4)), (5, .int (v5 + x29)), (0, .ref a0), (1, .int v1), (4, .int (v4 + 1)), (7, .int v7)] dX6_emboss_141 (by decide) rfl ?_
          refine r_lv [2, 3, 4, 1, 0, 5] rfl ?_
          exact hj143 (v4 + 1) (v5 + x29) (v7 / 4) t30 h
        clear hj134E
        refine r_icmp_eq C 133 129 rfl dX6_emboss_126 (by decide) h (fun h => ?_) (fun h => ?_)
        · refine r_iconst C (v := 0) 134 rfl dX6_emboss_133 (by decide) ?_
          refine r_lv [1, 2, 0, 5] rfl ?_
          exact hj134 0 t22 h
        · refine r_iconst C (v := 1) 130 rfl dX6_emboss_129 (by decide) ?_
          refine r_goto C 134 dX6_emboss_130 (by decide) ?_
          refine r_lv [1, 2, 0, 5] rfl ?_
          exact hj134 1 t22 h
set_option maxHeartbeats 4000000 in
set_option maxRecDepth 100000 in
theorem w_X6_emboss_L183 (l : Launch) (hst : l.stackTraces = false) {p : Program} {e : Env} {s : State} {m : MethodId} {args : Array Value} {below : List Frame} {meth : Method} {c : Code} {g : jG} {o : jO} {τ : Hp}  (C : jC p l s m args meth c g RX6 cX6_emboss 9 (some FieldType.int)) (hE : ∀ x ∈ c.exceptionTable.toList, False) (k232 : Nat → Int32 → Int32 → Int32 → Int32 → Hp → jR) (hk232 : ∀ (a0x : Nat) (v1x : Int32) (v4x : Int32) (v5x : Int32) (v7x : Int32) (tx : Hp), k232 a0x v1x v4x v5x v7x tx = some (o, τ) → jW p l e ({ frames := 8, cells := 0, slots := 0, locals := 184 } : Room) s m args below meth c g (jQ below g o τ args s 0 0) 0 0 232 [(0, .ref a0x), (1, .int v1x), (4, .int v4x), (5, .int v5x), (7, .int v7x)] [] tx) : ∀ (n : Nat) (a0 : Nat) (v1 : Int32) (v4 : Int32) (v5 : Int32) (v7 : Int32) (v8 : Int32) (t0 : Hp), J_X6_emboss_L183  k232 n a0 v1 v4 v5 v7 v8 t0 = some (o, τ) → jW p l e ({ frames := 8, cells := 0, slots := 0, locals := 184 } : Room) s m args below meth c g (jQ below g o τ args s 0 0) 0 0 183 [(0, .ref a0), (1, .int v1), (4, .int v4), (5, .int v5), (7, .int v7), (8, .int v8)] [] t0 := by
  intro n
  induction n with
  | zero => intro a0 v1 v4 v5 v7 v8 t0 h; cases h
  | succ n ih =>
    intro a0 v1 v4 v5 v7 v8 t0 h
    have h : J_X6_emboss_L183b  k232 (J_X6_emboss_L183  k232 n) a0 v1 v4 v5 v7 v8 t0 = some (o, τ) := h
    unfold J_X6_emboss_L183b at h
    refine r_iload C 185 rfl 5 dX6_emboss_183 rfl ?_
    refine r_aload_n C (x := some a0) 186 rfl 0 dX6_emboss_185 rfl ?_
    refine r_getR C 189 rfl ff_X6_71 dX6_emboss_186 h (fun r47 h => ?_)
    refine r_iload C 191 rfl 4 dX6_emboss_189 rfl ?_
    replace h := jdr_some h
    obtain ⟨b48, hr, h⟩ := h
    rw [hr]
    refine r_iald C 192 rfl dX6_emboss_191 h (fun x49 h => ?_)
    refine r_icmp_ge C 232 195 rfl dX6_emboss_192 (by decide) h (fun h => ?_) (fun h => ?_)
    · refine r_lv [0, 1, 2, 3, 4] rfl ?_
      exact hk232 a0 v1 v4 v5 v7 t0 h
    · refine r_aload_n C (x := some a0) 196 rfl 0 dX6_emboss_195 rfl ?_
      refine r_getR C 199 rfl ff_X6_44 dX6_emboss_196 h (fun r50 h => ?_)
      refine r_bipush C (v := 40) 201 rfl dX6_emboss_199 (by decide) ?_
      refine r_bipush C (v := 100) 203 rfl dX6_emboss_201 (by decide) ?_
      refine r_iload_n C 204 rfl 1 dX6_emboss_203 rfl ?_
      refine r_imul C 205 rfl dX6_emboss_204 ?_
      refine r_iload C 207 rfl 4 dX6_emboss_205 rfl ?_
      refine r_iadd C 208 rfl dX6_emboss_207 ?_
      refine r_imul C 209 rfl dX6_emboss_208 ?_
      refine r_iload C 211 rfl 5 dX6_emboss_209 rfl ?_
      refine r_iadd C 212 rfl dX6_emboss_211 ?_
      refine r_aload_n C (x := some a0) 213 rfl 0 dX6_emboss_212 rfl ?_
      refine r_getR C 216 rfl ff_X6_68 dX6_emboss_213 h (fun r51 h => ?_)
      refine r_bipush C (v := 40) 218 rfl dX6_emboss_216 (by decide) ?_
      refine r_iload C 220 rfl 4 dX6_emboss_218 rfl ?_
      refine r_imul C 221 rfl dX6_emboss_220 ?_
      refine r_iload C 223 rfl 5 dX6_emboss_221 rfl ?_
      refine r_iadd C 224 rfl dX6_emboss_223 ?_
      replace h := jdr_some h
      obtain ⟨b52, hr, h⟩ := h
      rw [hr]
      refine r_iald C 225 rfl dX6_emboss_224 h (fun x53 h => ?_)
      replace h := jdr_some h
      obtain ⟨b54, hr, h⟩ := h
      rw [hr]
      refine r_iast C 226 rfl dX6_emboss_225 h (fun t55 h => ?_)
      refine r_iinc C (v := v8 + 1) 229 rfl 5 [(8, .int (v8 + 1)), (0, .ref a0), (1, .int v1), (4, .int v4), (5, .int v5), (7, .int v7)] dX6_emboss_226 rfl rfl (by decide) rfl ?_
      refine r_goto C 183 dX6_emboss_229 (by decide) ?_
      refine r_lv [1, 2, 3, 4, 5, 0] rfl ?_
      exact ih a0 v1 v4 v5 v7 (v8 + 1) t55 h
set_option maxHeartbeats 4000000 in
set_option maxRecDepth 100000 in
theorem w_X6_emboss_L152 (l : Launch) (hst : l.stackTraces = false) {p : Program} {e : Env} {s : State} {m : MethodId} {args : Array Value} {below : List Frame} {meth : Method} {c : Code} {g : jG} {o : jO} {τ : Hp}  (C : jC p l s m args meth c g RX6 cX6_emboss 9 (some FieldType.int)) (hE : ∀ x ∈ c.exceptionTable.toList, False)  : ∀ (n : Nat) (a0 : Nat) (v1 : Int32) (v4 : Int32) (v5 : Int32) (v7 : Int32) (t0 : Hp), J_X6_emboss_L152   n a0 v1 v4 v5 v7 t0 = some (o, τ) → jW p l e ({ frames := 8, cells := 0, slots := 0, locals := 184 } : Room) s m args below meth c g (jQ below g o τ args s 0 0) 0 0 152 [(0, .ref a0), (1, .int v1), (4, .int v4), (5, .int v5), (7, .int v7)] [] t0 := by
  intro n
  induction n with
  | zero => intro a0 v1 v4 v5 v7 t0 h; cases h
  | succ n ih =>
    intro a0 v1 v4 v5 v7 t0 h
    have h : J_X6_emboss_L152b   (J_X6_emboss_L152   n) a0 v1 v4 v5 v7 t0 = some (o, τ) := h
    unfold J_X6_emboss_L152b at h
    refine r_iload C 154 rfl 4 dX6_emboss_152 rfl ?_
    refine r_aload_n C (x := some a0) 155 rfl 0 dX6_emboss_154 rfl ?_
    refine r_getI C 158 rfl ff_X6_177 dX6_emboss_155 h (fun x36 h => ?_)
    refine r_icmp_ge C 238 161 rfl dX6_emboss_158 (by decide) h (fun h => ?_) (fun h => ?_)
    · refine r_aload_n C (x := some a0) 239 rfl 0 dX6_emboss_238 rfl ?_
      refine r_getR C 242 rfl ff_X6_50 dX6_emboss_239 h (fun r37 h => ?_)
      refine r_iload_n C 243 rfl 1 dX6_emboss_242 rfl ?_
      refine r_aload_n C (x := some a0) 244 rfl 0 dX6_emboss_243 rfl ?_
      refine r_getI C 247 rfl ff_X6_177 dX6_emboss_244 h (fun x38 h => ?_)
      replace h := jdr_some h
      obtain ⟨b39, hr, h⟩ := h
      rw [hr]
      refine r_iast C 248 rfl dX6_emboss_247 h (fun t40 h => ?_)
      refine r_bipush C (v := 100) 250 rfl dX6_emboss_248 (by decide) ?_
      refine r_iload C 252 rfl 3 dX6_emboss_250 rfl ?_
      refine r_imul C 253 rfl dX6_emboss_252 ?_
      refine r_iload C 255 rfl 2 dX6_emboss_253 rfl ?_
      refine r_iadd C 256 rfl dX6_emboss_255 ?_
      exact r_iret C dX6_emboss_256 (Nat.le_refl _) (Nat.le_refl _) h
    · refine r_aload_n C (x := some a0) 162 rfl 0 dX6_emboss_161 rfl ?_
      refine r_getR C 165 rfl ff_X6_47 dX6_emboss_162 h (fun r41 h => ?_)
      refine r_bipush C (v := 100) 167 rfl dX6_emboss_165 (by decide) ?_
      refine r_iload_n C 168 rfl 1 dX6_emboss_167 rfl ?_
      refine r_imul C 169 rfl dX6_emboss_168 ?_
      refine r_iload C 171 rfl 4 dX6_emboss_169 rfl ?_
      refine r_iadd C 172 rfl dX6_emboss_171 ?_
      refine r_aload_n C (x := some a0) 173 rfl 0 dX6_emboss_172 rfl ?_
      refine r_getR C 176 rfl ff_X6_71 dX6_emboss_173 h (fun r42 h => ?_)
      refine r_iload C 178 rfl 4 dX6_emboss_176 rfl ?_
      replace h := jdr_some h
      obtain ⟨b43, hr, h⟩ := h
      rw [hr]
      refine r_iald C 179 rfl dX6_emboss_178 h (fun x44 h => ?_)
      replace h := jdr_some h
      obtain ⟨b45, hr, h⟩ := h
      rw [hr]
      refine r_iast C 180 rfl dX6_emboss_179 h (fun t46 h => ?_)
      refine r_iconst C (v := 0) 181 rfl dX6_emboss_180 (by decide) ?_
      refine r_istore C 183 rfl [(8, .int 0), (0, .ref a0), (1, .int v1), (4, .int v4), (5, .int v5), (7, .int v7)] dX6_emboss_181 (by decide) rfl ?_
      refine r_lv [1, 2, 3, 4, 5, 0] rfl ?_
      refine w_X6_emboss_L183 l hst  C hE _ (fun x56 x57 x58 x59 x60 t61 h => ?_) jN a0 v1 v4 v5 v7 0 t46 h
      refine r_iinc C (v := x60 + 1) 235 rfl 4 [(7, .int (x60 + 1)), (0, .ref x56), (1, .int x57), (4, .int x58), (5, .int x59)] dX6_emboss_232 rfl rfl (by decide) rfl ?_
      refine r_goto C 152 dX6_emboss_235 (by decide) ?_
      refine r_lv [1, 2, 3, 4, 0] rfl ?_
      exact ih x56 x57 x58 x59 (x60 + 1) t61 h
set_option maxHeartbeats 4000000 in
set_option maxRecDepth 100000 in
theorem k_X6_emboss (l : Launch) (hst : l.stackTraces = false) (g : jG)   (a0 : Nat) (v1 : Int32) (σ : Hp) (o : jO) (τ : Hp) (h : J_X6_emboss a0 v1 σ = some (o, τ)) : jMet l g yX6_emboss (Cond.code yX6_emboss cX6_emboss 9 (some FieldType.int) :: gT) ({ frames := 8, cells := 0, slots := 0, locals := 184 } : Room) 0 0 [.ref a0, .int v1] σ o τ := by
  refine j_start l hst (own := RX6) (by decide) rfl (Nat.le_of_ble_eq_true rfl) ?_
  intro p e s m args below meth c C hE hin
  unfold J_X6_emboss at h
  show jW p l e ({ frames := 8, cells := 0, slots := 0, locals := 184 } : Room) s m args below meth c g (jQ below g o τ args s 0 0) 0 0 0 [(0, .ref a0), (1, .int v1)] [] σ
  refine r_aload_n C (x := some a0) 1 rfl 0 dX6_emboss_0 rfl ?_
  refine r_iload_n C 2 rfl 1 dX6_emboss_1 rfl ?_
  refine r_callV C (ci := 6) mm_X6_171 im_yX6_isText se_yX6_isText rfl 5 0 0 rfl rfl rfl dX6_emboss_2 rfl rfl (As := [.int v1]) rfl rfl (Nat.le_of_ble_eq_true rfl) ⟨Nat.le_of_ble_eq_true rfl, Nat.le_of_ble_eq_true rfl⟩ ⟨(Nat.le_of_ble_eq_true rfl), (Nat.le_of_ble_eq_true rfl)⟩ (fun o t h => k_X6_isText l hst g _ _ _ o t h) h (fun w2 t1 h => ?_) (fun E t h => r_out C (fun x hx => (hE x hx).elim) (Nat.le_refl _) (Nat.le_refl _) h)
  replace h := jvI_some h
  obtain ⟨x3, rfl, h⟩ := h
  refine r_istore_n C 6 rfl [(2, .int x3), (0, .ref a0), (1, .int v1)] dX6_emboss_5 (by decide) rfl ?_
  refine r_iload_n C 7 rfl 0 dX6_emboss_6 rfl ?_
  obtain ⟨j20, hj20E, h⟩ := jj_some h
  have hj20 : ∀ (x4 : Int32) (t5 : Hp), j20 x4 t5 = some (o, τ) → jW p l e ({ frames := 8, cells := 0, slots := 0, locals := 184 } : Room) s m args below meth c g (jQ below g o τ args s 0 0) 0 0 20 [(0, .ref a0), (1, .int v1), (2, .int x3)] [.int x4] t5 := by
    subst hj20E
    intro x4 t5 h
    refine r_istore_n C 21 rfl [(3, .int x4), (0, .ref a0), (1, .int v1), (2, .int x3)] dX6_emboss_20 (by decide) rfl ?_
    refine r_aload_n C (x := some a0) 22 rfl 1 dX6_emboss_21 rfl ?_
    refine r_iload_n C 23 rfl 3 dX6_emboss_22 rfl ?_
    obtain ⟨j43, hj43E, h⟩ := jj_some h
    have hj43 : ∀ (x6 : Int32) (t7 : Hp), j43 x6 t7 = some (o, τ) → jW p l e ({ frames := 8, cells := 0, slots := 0, locals := 184 } : Room) s m args below meth c g (jQ below g o τ args s 0 0) 0 0 43 [(0, .ref a0), (1, .int v1)] [.int x6, .ref a0] t7 := by
      subst hj43E
      intro x6 t7 h
      refine r_callV C (ci := 6) mm_X6_84 im_yX6_goesOn se_yX6_goesOn rfl 46 0 0 rfl rfl rfl dX6_emboss_43 rfl rfl (As := [.int x6]) rfl rfl (Nat.le_of_ble_eq_true rfl) ⟨Nat.le_of_ble_eq_true rfl, Nat.le_of_ble_eq_true rfl⟩ ⟨(Nat.le_of_ble_eq_true rfl), (Nat.le_of_ble_eq_true rfl)⟩ (fun o t h => k_X6_goesOn l hst g _ _ _ o t h) h (fun w9 t8 h => ?_) (fun E t h => r_out C (fun x hx => (hE x hx).elim) (Nat.le_refl _) (Nat.le_refl _) h)
      replace h := jvI_some h
      obtain ⟨x10, rfl, h⟩ := h
      refine r_if_ne C 51 49 rfl dX6_emboss_46 (by decide) h (fun h => ?_) (fun h => ?_)
      · refine r_iconst C (v := 0) 52 rfl dX6_emboss_51 (by decide) ?_
        refine r_istore C 54 rfl [(4, .int 0), (0, .ref a0), (1, .int v1)] dX6_emboss_52 (by decide) rfl ?_
        refine r_lv [1, 2, 0] rfl ?_
        refine w_X6_emboss_L54 l hst  C hE _ (fun x18 x19 t20 h => ?_) jN a0 v1 0 t8 h
        refine r_iconst C (v := 0) 85 rfl dX6_emboss_84 (by decide) ?_
        refine r_istore C 87 rfl [(4, .int 0), (0, .ref x18), (1, .int x19)] dX6_emboss_85 (by decide) rfl ?_
        refine r_iconst C (v := 0) 88 rfl dX6_emboss_87 (by decide) ?_
        refine r_istore C 90 rfl [(5, .int 0), (4, .int 0), (0, .ref x18), (1, .int x19)] dX6_emboss_88 (by decide) rfl ?_
        refine r_iconst C (v := (-1)) 91 rfl dX6_emboss_90 (by decide) ?_
        refine r_istore C 93 rfl [(6, .int ((-1))), (5, .int 0), (4, .int 0), (0, .ref x18), (1, .int x19)] dX6_emboss_91 (by decide) rfl ?_
        refine r_iconst C (v := 0) 94 rfl dX6_emboss_93 (by decide) ?_
        refine r_istore C 96 rfl [(7, .int 0), (6, .int ((-1))), (5, .int 0), (4, .int 0), (0, .ref x18), (1, .int x19)] dX6_emboss_94 (by decide) rfl ?_
        refine r_lv [4, 5, 3, 2, 1, 0] rfl ?_
        refine w_X6_emboss_L96 l hst  C hE _ (fun x31 x32 x33 x34 t35 h => ?_) jN x18 x19 0 0 ((-1)) 0 t20 h
        refine r_iconst C (v := 0) 150 rfl dX6_emboss_149 (by decide) ?_
        refine r_istore C 152 rfl [(7, .int 0), (0, .ref x31), (1, .int x32), (4, .int x33), (5, .int x34)] dX6_emboss_150 (by decide) rfl ?_
        refine r_lv [1, 2, 3, 4, 0] rfl ?_
        refine w_X6_emboss_L152 l hst  C hE  jN x31 x32 x33 x34 0 t35 h
      · refine r_iconst C (v := 0) 50 rfl dX6_emboss_49 (by decide) ?_
        exact r_iret C dX6_emboss_50 (Nat.le_refl _) (Nat.le_refl _) h
    clear hj43E
    refine r_if_ne C 30 26 rfl dX6_emboss_23 (by decide) h (fun h => ?_) (fun h => ?_)
    · refine r_aload_n C (x := some a0) 31 rfl 1 dX6_emboss_30 rfl ?_
      refine r_iload_n C 32 rfl 2 dX6_emboss_31 rfl ?_
      refine r_callV C (ci := 6) mm_X6_196 im_yX6_isWorn se_yX6_isWorn rfl 35 0 0 rfl rfl rfl dX6_emboss_32 rfl rfl (As := [.int v1]) rfl rfl (Nat.le_of_ble_eq_true rfl) ⟨Nat.le_of_ble_eq_true rfl, Nat.le_of_ble_eq_true rfl⟩ ⟨(Nat.le_of_ble_eq_true rfl), (Nat.le_of_ble_eq_true rfl)⟩ (fun o t h => k_X6_isWorn l hst g _ _ _ o t h) h (fun w63 t62 h => ?_) (fun E t h => r_out C (fun x hx => (hE x hx).elim) (Nat.le_refl _) (Nat.le_refl _) h)
      replace h := jvI_some h
      obtain ⟨x64, rfl, h⟩ := h
      refine r_if_eq C 42 38 rfl dX6_emboss_35 (by decide) h (fun h => ?_) (fun h => ?_)
      · refine r_iconst C (v := 0) 43 rfl dX6_emboss_42 (by decide) ?_
        refine r_lv [1, 2] rfl ?_
        exact hj43 0 t62 h
      · refine r_iconst C (v := 2) 39 rfl dX6_emboss_38 (by decide) ?_
        refine r_goto C 43 dX6_emboss_39 (by decide) ?_
        refine r_lv [1, 2] rfl ?_
        exact hj43 2 t62 h
    · refine r_iconst C (v := 1) 27 rfl dX6_emboss_26 (by decide) ?_
      refine r_goto C 43 dX6_emboss_27 (by decide) ?_
      refine r_lv [1, 2] rfl ?_
      exact hj43 1 t5 h
  clear hj20E
  refine r_if_eq C 19 10 rfl dX6_emboss_7 (by decide) h (fun h => ?_) (fun h => ?_)
  · refine r_iconst C (v := (-1)) 20 rfl dX6_emboss_19 (by decide) ?_
    refine r_lv [1, 2, 0] rfl ?_
    exact hj20 ((-1)) t1 h
  · refine r_aload_n C (x := some a0) 11 rfl 1 dX6_emboss_10 rfl ?_
    refine r_iload_n C 12 rfl 2 dX6_emboss_11 rfl ?_
    refine r_iconst C (v := (-1)) 13 rfl dX6_emboss_12 (by decide) ?_
    refine r_callV C (ci := 6) mm_X6_187 im_yX6_breaks se_yX6_breaks rfl 16 0 0 rfl rfl rfl dX6_emboss_13 rfl rfl (As := [.int v1, .int ((-1))]) rfl rfl (Nat.le_of_ble_eq_true rfl) ⟨Nat.le_of_ble_eq_true rfl, Nat.le_of_ble_eq_true rfl⟩ ⟨(Nat.le_of_ble_eq_true rfl), (Nat.le_of_ble_eq_true rfl)⟩ (fun o t h => k_X6_breaks l hst g _ _ _ _ o t h) h (fun w66 t65 h => ?_) (fun E t h => r_out C (fun x hx => (hE x hx).elim) (Nat.le_refl _) (Nat.le_refl _) h)
    replace h := jvI_some h
    obtain ⟨x67, rfl, h⟩ := h
    refine r_goto C 20 dX6_emboss_16 (by decide) ?_
    refine r_lv [1, 2, 0] rfl ?_
    exact hj20 x67 t65 h

def J_X6_changed_L61b   (rc : Nat → Int32 → Int32 → Int32 → Hp → jR) (a0 : Nat) (v1 : Int32) (v3 : Int32) (v4 : Int32) (t0 : Hp) : jR := jgI t0 a0 6 27 (fun x18 => (if x18 ≤ v4 then some (.inl (some (.int v3)), t0) else jcv t0 a0 6 (J_X6_isEmbossed a0 v1 v4 t0) (fun w20 t19 => jvI w20 (fun x21 => jj (fun (x22 : Int32) (t23 : Hp) => rc a0 v1 (v3 + x22) (v4 + 1) t23) (fun j86 => (if x21 = 0 then j86 1 t19 else j86 0 t19)))) (fun E t => some (.inr E, t))))
def J_X6_changed_L61   : Nat → Nat → Int32 → Int32 → Int32 → Hp → jR
  | 0 => fun _ _ _ _ _ => none
  | n + 1 => J_X6_changed_L61b   (J_X6_changed_L61   n)
def J_X6_changed  (a0 : Nat) (v1 : Int32) (σ : Hp) : jR := jcv σ a0 6 (J_X6_isText a0 v1 σ) (fun w2 t1 => jvI w2 (fun x3 => jj (fun (x4 : Int32) (t5 : Hp) => jcv t5 a0 6 (J_X6_goesOn a0 x4 t5) (fun w7 t6 => jvI w7 (fun x8 => (if x8 = 0 then some (.inl (some (.int 0)), t6) else jcv t6 a0 6 (J_X6_breaks a0 v1 ((-1)) t6) (fun w10 t9 => jvI w10 (fun x11 => jgR t9 a0 6 18 (fun r12 => jdr r12 (fun b13 => jaI t9 b13 v1 (fun x14 => jgI t9 a0 6 27 (fun x15 => jj (fun (x16 : Int32) (t17 : Hp) => J_X6_changed_L61   jN a0 v1 x16 0 t17) (fun j57 => (if x14 ≤ x15 then j57 0 t9 else jgR t9 a0 6 18 (fun r24 => jdr r24 (fun b25 => jaI t9 b25 v1 (fun x26 => jgI t9 a0 6 27 (fun x27 => j57 (x26 - x27) t9)))))))))))) (fun E t => some (.inr E, t))))) (fun E t => some (.inr E, t))) (fun j14 => (if x3 = 0 then j14 1 t1 else j14 0 t1)))) (fun E t => some (.inr E, t))
set_option maxHeartbeats 4000000 in
set_option maxRecDepth 100000 in
theorem w_X6_changed_L61 (l : Launch) (hst : l.stackTraces = false) {p : Program} {e : Env} {s : State} {m : MethodId} {args : Array Value} {below : List Frame} {meth : Method} {c : Code} {g : jG} {o : jO} {τ : Hp}  (C : jC p l s m args meth c g RX6 cX6_changed 5 (some FieldType.int)) (hE : ∀ x ∈ c.exceptionTable.toList, False)  : ∀ (n : Nat) (a0 : Nat) (v1 : Int32) (v3 : Int32) (v4 : Int32) (t0 : Hp), J_X6_changed_L61   n a0 v1 v3 v4 t0 = some (o, τ) → jW p l e ({ frames := 8, cells := 0, slots := 0, locals := 184 } : Room) s m args below meth c g (jQ below g o τ args s 0 0) 0 0 61 [(0, .ref a0), (1, .int v1), (3, .int v3), (4, .int v4)] [] t0 := by
  intro n
  induction n with
  | zero => intro a0 v1 v3 v4 t0 h; cases h
  | succ n ih =>
    intro a0 v1 v3 v4 t0 h
    have h : J_X6_changed_L61b   (J_X6_changed_L61   n) a0 v1 v3 v4 t0 = some (o, τ) := h
    unfold J_X6_changed_L61b at h
    refine r_iload C 63 rfl 3 dX6_changed_61 rfl ?_
    refine r_aload_n C (x := some a0) 64 rfl 0 dX6_changed_63 rfl ?_
    refine r_getI C 67 rfl ff_X6_177 dX6_changed_64 h (fun x18 h => ?_)
    refine r_icmp_ge C 94 70 rfl dX6_changed_67 (by decide) h (fun h => ?_) (fun h => ?_)
    · refine r_iload_n C 95 rfl 2 dX6_changed_94 rfl ?_
      exact r_iret C dX6_changed_95 (Nat.le_refl _) (Nat.le_refl _) h
    · refine r_iload_n C 71 rfl 2 dX6_changed_70 rfl ?_
      refine r_aload_n C (x := some a0) 72 rfl 0 dX6_changed_71 rfl ?_
      refine r_iload_n C 73 rfl 1 dX6_changed_72 rfl ?_
      refine r_iload C 75 rfl 3 dX6_changed_73 rfl ?_
      refine r_callV C (ci := 6) mm_X6_190 im_yX6_isEmbossed se_yX6_isEmbossed rfl 78 0 0 rfl rfl rfl dX6_changed_75 rfl rfl (As := [.int v1, .int v4]) rfl rfl (Nat.le_of_ble_eq_true rfl) ⟨Nat.le_of_ble_eq_true rfl, Nat.le_of_ble_eq_true rfl⟩ ⟨(Nat.le_of_ble_eq_true rfl), (Nat.le_of_ble_eq_true rfl)⟩ (fun o t h => k_X6_isEmbossed l hst g _ _ _ _ o t h) h (fun w20 t19 h => ?_) (fun E t h => r_out C (fun x hx => (hE x hx).elim) (Nat.le_refl _) (Nat.le_refl _) h)
      replace h := jvI_some h
      obtain ⟨x21, rfl, h⟩ := h
      obtain ⟨j86, hj86E, h⟩ := jj_some h
      have hj86 : ∀ (x22 : Int32) (t23 : Hp), j86 x22 t23 = some (o, τ) → jW p l e ({ frames := 8, cells := 0, slots := 0, locals := 184 } : Room) s m args below meth c g (jQ below g o τ args s 0 0) 0 0 86 [(0, .ref a0), (1, .int v1), (4, .int v4)] [.int x22, .int v3] t23 := by
        subst hj86E
        intro x22 t23 h
        refine r_iadd C 87 rfl dX6_changed_86 ?_
        refine r_istore_n C 88 rfl [(3, .int (v3 + x22)), (0, .ref a0), (1, .int v1), (4, .int v4)] dX6_changed_87 (by decide) rfl ?_
        refine r_iinc C (v := v4 + 1) 91 rfl 3 [(4, .int (v4 + 1)), (3, .int (v3 + x22)), (0, .ref a0), (1, .int v1)] dX6_changed_88 rfl rfl (by decide) rfl ?_
        refine r_goto C 61 dX6_changed_91 (by decide) ?_
        refine r_lv [2, 3, 1, 0] rfl ?_
        exact ih a0 v1 (v3 + x22) (v4 + 1) t23 h
      clear hj86E
      refine r_if_eq C 85 81 rfl dX6_changed_78 (by decide) h (fun h => ?_) (fun h => ?_)
      · refine r_iconst C (v := 1) 86 rfl dX6_changed_85 (by decide) ?_
        refine r_lv [0, 1, 3] rfl ?_
        exact hj86 1 t19 h
      · refine r_iconst C (v := 0) 82 rfl dX6_changed_81 (by decide) ?_
        refine r_goto C 86 dX6_changed_82 (by decide) ?_
        refine r_lv [0, 1, 3] rfl ?_
        exact hj86 0 t19 h
set_option maxHeartbeats 4000000 in
set_option maxRecDepth 100000 in
theorem k_X6_changed (l : Launch) (hst : l.stackTraces = false) (g : jG)   (a0 : Nat) (v1 : Int32) (σ : Hp) (o : jO) (τ : Hp) (h : J_X6_changed a0 v1 σ = some (o, τ)) : jMet l g yX6_changed (Cond.code yX6_changed cX6_changed 5 (some FieldType.int) :: gT) ({ frames := 8, cells := 0, slots := 0, locals := 184 } : Room) 0 0 [.ref a0, .int v1] σ o τ := by
  refine j_start l hst (own := RX6) (by decide) rfl (Nat.le_of_ble_eq_true rfl) ?_
  intro p e s m args below meth c C hE hin
  unfold J_X6_changed at h
  show jW p l e ({ frames := 8, cells := 0, slots := 0, locals := 184 } : Room) s m args below meth c g (jQ below g o τ args s 0 0) 0 0 0 [(0, .ref a0), (1, .int v1)] [] σ
  refine r_aload_n C (x := some a0) 1 rfl 0 dX6_changed_0 rfl ?_
  refine r_aload_n C (x := some a0) 2 rfl 0 dX6_changed_1 rfl ?_
  refine r_iload_n C 3 rfl 1 dX6_changed_2 rfl ?_
  refine r_callV C (ci := 6) mm_X6_171 im_yX6_isText se_yX6_isText rfl 6 0 0 rfl rfl rfl dX6_changed_3 rfl rfl (As := [.int v1]) rfl rfl (Nat.le_of_ble_eq_true rfl) ⟨Nat.le_of_ble_eq_true rfl, Nat.le_of_ble_eq_true rfl⟩ ⟨(Nat.le_of_ble_eq_true rfl), (Nat.le_of_ble_eq_true rfl)⟩ (fun o t h => k_X6_isText l hst g _ _ _ o t h) h (fun w2 t1 h => ?_) (fun E t h => r_out C (fun x hx => (hE x hx).elim) (Nat.le_refl _) (Nat.le_refl _) h)
  replace h := jvI_some h
  obtain ⟨x3, rfl, h⟩ := h
  obtain ⟨j14, hj14E, h⟩ := jj_some h
  have hj14 : ∀ (x4 : Int32) (t5 : Hp), j14 x4 t5 = some (o, τ) → jW p l e ({ frames := 8, cells := 0, slots := 0, locals := 184 } : Room) s m args below meth c g (jQ below g o τ args s 0 0) 0 0 14 [(0, .ref a0), (1, .int v1)] [.int x4, .ref a0] t5 := by
    subst hj14E
    intro x4 t5 h
    refine r_callV C (ci := 6) mm_X6_84 im_yX6_goesOn se_yX6_goesOn rfl 17 0 0 rfl rfl rfl dX6_changed_14 rfl rfl (As := [.int x4]) rfl rfl (Nat.le_of_ble_eq_true rfl) ⟨Nat.le_of_ble_eq_true rfl, Nat.le_of_ble_eq_true rfl⟩ ⟨(Nat.le_of_ble_eq_true rfl), (Nat.le_of_ble_eq_true rfl)⟩ (fun o t h => k_X6_goesOn l hst g _ _ _ o t h) h (fun w7 t6 h => ?_) (fun E t h => r_out C (fun x hx => (hE x hx).elim) (Nat.le_refl _) (Nat.le_refl _) h)
    replace h := jvI_some h
    obtain ⟨x8, rfl, h⟩ := h
    refine r_if_ne C 22 20 rfl dX6_changed_17 (by decide) h (fun h => ?_) (fun h => ?_)
    · refine r_aload_n C (x := some a0) 23 rfl 0 dX6_changed_22 rfl ?_
      refine r_iload_n C 24 rfl 1 dX6_changed_23 rfl ?_
      refine r_iconst C (v := (-1)) 25 rfl dX6_changed_24 (by decide) ?_
      refine r_callV C (ci := 6) mm_X6_187 im_yX6_breaks se_yX6_breaks rfl 28 0 0 rfl rfl rfl dX6_changed_25 rfl rfl (As := [.int v1, .int ((-1))]) rfl rfl (Nat.le_of_ble_eq_true rfl) ⟨Nat.le_of_ble_eq_true rfl, Nat.le_of_ble_eq_true rfl⟩ ⟨(Nat.le_of_ble_eq_true rfl), (Nat.le_of_ble_eq_true rfl)⟩ (fun o t h => k_X6_breaks l hst g _ _ _ _ o t h) h (fun w10 t9 h => ?_) (fun E t h => r_out C (fun x hx => (hE x hx).elim) (Nat.le_refl _) (Nat.le_refl _) h)
      replace h := jvI_some h
      obtain ⟨x11, rfl, h⟩ := h
      refine r_istore_n C 29 rfl [(2, .int x11), (0, .ref a0), (1, .int v1)] dX6_changed_28 (by decide) rfl ?_
      refine r_aload_n C (x := some a0) 30 rfl 1 dX6_changed_29 rfl ?_
      refine r_getR C 33 rfl ff_X6_50 dX6_changed_30 h (fun r12 h => ?_)
      refine r_iload_n C 34 rfl 2 dX6_changed_33 rfl ?_
      replace h := jdr_some h
      obtain ⟨b13, hr, h⟩ := h
      rw [hr]
      refine r_iald C 35 rfl dX6_changed_34 h (fun x14 h => ?_)
      refine r_aload_n C (x := some a0) 36 rfl 1 dX6_changed_35 rfl ?_
      refine r_getI C 39 rfl ff_X6_177 dX6_changed_36 h (fun x15 h => ?_)
      obtain ⟨j57, hj57E, h⟩ := jj_some h
      have hj57 : ∀ (x16 : Int32) (t17 : Hp), j57 x16 t17 = some (o, τ) → jW p l e ({ frames := 8, cells := 0, slots := 0, locals := 184 } : Room) s m args below meth c g (jQ below g o τ args s 0 0) 0 0 57 [(0, .ref a0), (1, .int v1)] [.int x16] t17 := by
        subst hj57E
        intro x16 t17 h
        refine r_istore_n C 58 rfl [(3, .int x16), (0, .ref a0), (1, .int v1)] dX6_changed_57 (by decide) rfl ?_
        refine r_iconst C (v := 0) 59 rfl dX6_changed_58 (by decide) ?_
        refine r_istore C 61 rfl [(4, .int 0), (3, .int x16), (0, .ref a0), (1, .int v1)] dX6_changed_59 (by decide) rfl ?_
        refine r_lv [2, 3, 1, 0] rfl ?_
        refine w_X6_changed_L61 l hst  C hE  jN a0 v1 x16 0 t17 h
      clear hj57E
      refine r_icmp_le C 56 42 rfl dX6_changed_39 (by decide) h (fun h => ?_) (fun h => ?_)
      · refine r_iconst C (v := 0) 57 rfl dX6_changed_56 (by decide) ?_
        refine r_lv [1, 2] rfl ?_
        exact hj57 0 t9 h
      · refine r_aload_n C (x := some a0) 43 rfl 1 dX6_changed_42 rfl ?_
        refine r_getR C 46 rfl ff_X6_50 dX6_changed_43 h (fun r24 h => ?_)
        refine r_iload_n C 47 rfl 2 dX6_changed_46 rfl ?_
        replace h := jdr_some h
        obtain ⟨b25, hr, h⟩ := h
        rw [hr]
        refine r_iald C 48 rfl dX6_changed_47 h (fun x26 h => ?_)
        refine r_aload_n C (x := some a0) 49 rfl 1 dX6_changed_48 rfl ?_
        refine r_getI C 52 rfl ff_X6_177 dX6_changed_49 h (fun x27 h => ?_)
        refine r_isub C 53 rfl dX6_changed_52 ?_
        refine r_goto C 57 dX6_changed_53 (by decide) ?_
        refine r_lv [1, 2] rfl ?_
        exact hj57 (x26 - x27) t9 h
    · refine r_iconst C (v := 0) 21 rfl dX6_changed_20 (by decide) ?_
      exact r_iret C dX6_changed_21 (Nat.le_refl _) (Nat.le_refl _) h
  clear hj14E
  refine r_if_eq C 13 9 rfl dX6_changed_6 (by decide) h (fun h => ?_) (fun h => ?_)
  · refine r_iconst C (v := 1) 14 rfl dX6_changed_13 (by decide) ?_
    exact hj14 1 t1 h
  · refine r_iconst C (v := 0) 10 rfl dX6_changed_9 (by decide) ?_
    refine r_goto C 14 dX6_changed_10 (by decide) ?_
    exact hj14 0 t1 h

def J_X6_setBearing  (a0 : Nat) (v1 : Int32) (σ : Hp) : jR := jcs (J_X6_in v1 10 9999 σ) (fun w2 t1 => jvI w2 (fun x3 => jj (fun (x4 : Int32) (t5 : Hp) => jcv t5 a0 6 (J_X6_goesOn a0 x4 t5) (fun w7 t6 => jvI w7 (fun x8 => (if x8 = 0 then some (.inl (some (.int 0)), t6) else jgI t6 a0 6 20 (fun x9 => jpI t6 a0 6 20 v1 (fun t10 => some (.inl (some (.int x9)), t10)))))) (fun E t => some (.inr E, t))) (fun j18 => (if x3 = 0 then j18 1 t1 else j18 0 t1)))) (fun E t => some (.inr E, t))
set_option maxHeartbeats 4000000 in
set_option maxRecDepth 100000 in
theorem k_X6_setBearing (l : Launch) (hst : l.stackTraces = false) (g : jG)   (a0 : Nat) (v1 : Int32) (σ : Hp) (o : jO) (τ : Hp) (h : J_X6_setBearing a0 v1 σ = some (o, τ)) : jMet l g yX6_setBearing (Cond.code yX6_setBearing cX6_setBearing 3 (some FieldType.int) :: gT) ({ frames := 2, cells := 0, slots := 0, locals := 34 } : Room) 0 0 [.ref a0, .int v1] σ o τ := by
  refine j_start l hst (own := RX6) (by decide) rfl (Nat.le_of_ble_eq_true rfl) ?_
  intro p e s m args below meth c C hE hin
  unfold J_X6_setBearing at h
  show jW p l e ({ frames := 2, cells := 0, slots := 0, locals := 34 } : Room) s m args below meth c g (jQ below g o τ args s 0 0) 0 0 0 [(0, .ref a0), (1, .int v1)] [] σ
  refine r_aload_n C (x := some a0) 1 rfl 0 dX6_setBearing_0 rfl ?_
  refine r_iload_n C 2 rfl 1 dX6_setBearing_1 rfl ?_
  refine r_bipush C (v := 10) 4 rfl dX6_setBearing_2 (by decide) ?_
  refine r_sipush C (v := 9999) 7 rfl dX6_setBearing_4 (by decide) ?_
  refine r_callS C mm_X6_77 st_yX6_in 10 0 0 rfl rfl rfl dX6_setBearing_7 rfl rfl (As := [.int v1, .int 10, .int 9999]) rfl rfl (Nat.le_of_ble_eq_true rfl) ⟨Nat.le_of_ble_eq_true rfl, Nat.le_of_ble_eq_true rfl⟩ ⟨(Nat.le_of_ble_eq_true rfl), (Nat.le_of_ble_eq_true rfl)⟩ (fun o t h => k_X6_in l hst g _ _ _ _ o t h) h (fun w2 t1 h => ?_) (fun E t h => r_out C (fun x hx => (hE x hx).elim) (Nat.le_refl _) (Nat.le_refl _) h)
  replace h := jvI_some h
  obtain ⟨x3, rfl, h⟩ := h
  obtain ⟨j18, hj18E, h⟩ := jj_some h
  have hj18 : ∀ (x4 : Int32) (t5 : Hp), j18 x4 t5 = some (o, τ) → jW p l e ({ frames := 2, cells := 0, slots := 0, locals := 34 } : Room) s m args below meth c g (jQ below g o τ args s 0 0) 0 0 18 [(0, .ref a0), (1, .int v1)] [.int x4, .ref a0] t5 := by
    subst hj18E
    intro x4 t5 h
    refine r_callV C (ci := 6) mm_X6_84 im_yX6_goesOn se_yX6_goesOn rfl 21 0 0 rfl rfl rfl dX6_setBearing_18 rfl rfl (As := [.int x4]) rfl rfl (Nat.le_of_ble_eq_true rfl) ⟨Nat.le_of_ble_eq_true rfl, Nat.le_of_ble_eq_true rfl⟩ ⟨(Nat.le_of_ble_eq_true rfl), (Nat.le_of_ble_eq_true rfl)⟩ (fun o t h => k_X6_goesOn l hst g _ _ _ o t h) h (fun w7 t6 h => ?_) (fun E t h => r_out C (fun x hx => (hE x hx).elim) (Nat.le_refl _) (Nat.le_refl _) h)
    replace h := jvI_some h
    obtain ⟨x8, rfl, h⟩ := h
    refine r_if_ne C 26 24 rfl dX6_setBearing_21 (by decide) h (fun h => ?_) (fun h => ?_)
    · refine r_aload_n C (x := some a0) 27 rfl 0 dX6_setBearing_26 rfl ?_
      refine r_getI C 30 rfl ff_X6_56 dX6_setBearing_27 h (fun x9 h => ?_)
      refine r_istore_n C 31 rfl [(2, .int x9), (0, .ref a0), (1, .int v1)] dX6_setBearing_30 (by decide) rfl ?_
      refine r_aload_n C (x := some a0) 32 rfl 1 dX6_setBearing_31 rfl ?_
      refine r_iload_n C 33 rfl 2 dX6_setBearing_32 rfl ?_
      refine r_putI C 36 rfl fp_X6_56 dX6_setBearing_33 h (fun t10 h => ?_)
      refine r_iload_n C 37 rfl 0 dX6_setBearing_36 rfl ?_
      exact r_iret C dX6_setBearing_37 (Nat.le_refl _) (Nat.le_refl _) h
    · refine r_iconst C (v := 0) 25 rfl dX6_setBearing_24 (by decide) ?_
      exact r_iret C dX6_setBearing_25 (Nat.le_refl _) (Nat.le_refl _) h
  clear hj18E
  refine r_if_eq C 17 13 rfl dX6_setBearing_10 (by decide) h (fun h => ?_) (fun h => ?_)
  · refine r_iconst C (v := 1) 18 rfl dX6_setBearing_17 (by decide) ?_
    exact hj18 1 t1 h
  · refine r_iconst C (v := 0) 14 rfl dX6_setBearing_13 (by decide) ?_
    refine r_goto C 18 dX6_setBearing_14 (by decide) ?_
    exact hj18 0 t1 h

def J_X6_replace  (a0 : Nat) (v1 : Int32) (σ : Hp) : jR := jcs (J_X6_in v1 1 6 σ) (fun w2 t1 => jvI w2 (fun x3 => jj (fun (x4 : Int32) (t5 : Hp) => jcv t5 a0 6 (J_X6_goesOn a0 x4 t5) (fun w7 t6 => jvI w7 (fun x8 => (if x8 = 0 then some (.inl (some (.int 0)), t6) else jgR t6 a0 6 21 (fun r9 => jdr r9 (fun b10 => jaI t6 b10 (v1 - 1) (fun x11 => jgR t6 a0 6 21 (fun r12 => jdr r12 (fun b13 => jsI t6 b13 (v1 - 1) 0 (fun t14 => some (.inl (some (.int x11)), t14)))))))))) (fun E t => some (.inr E, t))) (fun j16 => (if x3 = 0 then j16 1 t1 else j16 0 t1)))) (fun E t => some (.inr E, t))
set_option maxHeartbeats 4000000 in
set_option maxRecDepth 100000 in
theorem k_X6_replace (l : Launch) (hst : l.stackTraces = false) (g : jG)   (a0 : Nat) (v1 : Int32) (σ : Hp) (o : jO) (τ : Hp) (h : J_X6_replace a0 v1 σ = some (o, τ)) : jMet l g yX6_replace (Cond.code yX6_replace cX6_replace 3 (some FieldType.int) :: gT) ({ frames := 2, cells := 0, slots := 0, locals := 34 } : Room) 0 0 [.ref a0, .int v1] σ o τ := by
  refine j_start l hst (own := RX6) (by decide) rfl (Nat.le_of_ble_eq_true rfl) ?_
  intro p e s m args below meth c C hE hin
  unfold J_X6_replace at h
  show jW p l e ({ frames := 2, cells := 0, slots := 0, locals := 34 } : Room) s m args below meth c g (jQ below g o τ args s 0 0) 0 0 0 [(0, .ref a0), (1, .int v1)] [] σ
  refine r_aload_n C (x := some a0) 1 rfl 0 dX6_replace_0 rfl ?_
  refine r_iload_n C 2 rfl 1 dX6_replace_1 rfl ?_
  refine r_iconst C (v := 1) 3 rfl dX6_replace_2 (by decide) ?_
  refine r_bipush C (v := 6) 5 rfl dX6_replace_3 (by decide) ?_
  refine r_callS C mm_X6_77 st_yX6_in 8 0 0 rfl rfl rfl dX6_replace_5 rfl rfl (As := [.int v1, .int 1, .int 6]) rfl rfl (Nat.le_of_ble_eq_true rfl) ⟨Nat.le_of_ble_eq_true rfl, Nat.le_of_ble_eq_true rfl⟩ ⟨(Nat.le_of_ble_eq_true rfl), (Nat.le_of_ble_eq_true rfl)⟩ (fun o t h => k_X6_in l hst g _ _ _ _ o t h) h (fun w2 t1 h => ?_) (fun E t h => r_out C (fun x hx => (hE x hx).elim) (Nat.le_refl _) (Nat.le_refl _) h)
  replace h := jvI_some h
  obtain ⟨x3, rfl, h⟩ := h
  obtain ⟨j16, hj16E, h⟩ := jj_some h
  have hj16 : ∀ (x4 : Int32) (t5 : Hp), j16 x4 t5 = some (o, τ) → jW p l e ({ frames := 2, cells := 0, slots := 0, locals := 34 } : Room) s m args below meth c g (jQ below g o τ args s 0 0) 0 0 16 [(0, .ref a0), (1, .int v1)] [.int x4, .ref a0] t5 := by
    subst hj16E
    intro x4 t5 h
    refine r_callV C (ci := 6) mm_X6_84 im_yX6_goesOn se_yX6_goesOn rfl 19 0 0 rfl rfl rfl dX6_replace_16 rfl rfl (As := [.int x4]) rfl rfl (Nat.le_of_ble_eq_true rfl) ⟨Nat.le_of_ble_eq_true rfl, Nat.le_of_ble_eq_true rfl⟩ ⟨(Nat.le_of_ble_eq_true rfl), (Nat.le_of_ble_eq_true rfl)⟩ (fun o t h => k_X6_goesOn l hst g _ _ _ o t h) h (fun w7 t6 h => ?_) (fun E t h => r_out C (fun x hx => (hE x hx).elim) (Nat.le_refl _) (Nat.le_refl _) h)
    replace h := jvI_some h
    obtain ⟨x8, rfl, h⟩ := h
    refine r_if_ne C 24 22 rfl dX6_replace_19 (by decide) h (fun h => ?_) (fun h => ?_)
    · refine r_aload_n C (x := some a0) 25 rfl 0 dX6_replace_24 rfl ?_
      refine r_getR C 28 rfl ff_X6_59 dX6_replace_25 h (fun r9 h => ?_)
      refine r_iload_n C 29 rfl 1 dX6_replace_28 rfl ?_
      refine r_iconst C (v := 1) 30 rfl dX6_replace_29 (by decide) ?_
      refine r_isub C 31 rfl dX6_replace_30 ?_
      replace h := jdr_some h
      obtain ⟨b10, hr, h⟩ := h
      rw [hr]
      refine r_iald C 32 rfl dX6_replace_31 h (fun x11 h => ?_)
      refine r_istore_n C 33 rfl [(2, .int x11), (0, .ref a0), (1, .int v1)] dX6_replace_32 (by decide) rfl ?_
      refine r_aload_n C (x := some a0) 34 rfl 1 dX6_replace_33 rfl ?_
      refine r_getR C 37 rfl ff_X6_59 dX6_replace_34 h (fun r12 h => ?_)
      refine r_iload_n C 38 rfl 2 dX6_replace_37 rfl ?_
      refine r_iconst C (v := 1) 39 rfl dX6_replace_38 (by decide) ?_
      refine r_isub C 40 rfl dX6_replace_39 ?_
      refine r_iconst C (v := 0) 41 rfl dX6_replace_40 (by decide) ?_
      replace h := jdr_some h
      obtain ⟨b13, hr, h⟩ := h
      rw [hr]
      refine r_iast C 42 rfl dX6_replace_41 h (fun t14 h => ?_)
      refine r_iload_n C 43 rfl 0 dX6_replace_42 rfl ?_
      exact r_iret C dX6_replace_43 (Nat.le_refl _) (Nat.le_refl _) h
    · refine r_iconst C (v := 0) 23 rfl dX6_replace_22 (by decide) ?_
      exact r_iret C dX6_replace_23 (Nat.le_refl _) (Nat.le_refl _) h
  clear hj16E
  refine r_if_eq C 15 11 rfl dX6_replace_8 (by decide) h (fun h => ?_) (fun h => ?_)
  · refine r_iconst C (v := 1) 16 rfl dX6_replace_15 (by decide) ?_
    exact hj16 1 t1 h
  · refine r_iconst C (v := 0) 12 rfl dX6_replace_11 (by decide) ?_
    refine r_goto C 16 dX6_replace_12 (by decide) ?_
    exact hj16 0 t1 h

def J_X6_strikes  (a0 : Nat) (v1 : Int32) (σ : Hp) : jR := jcs (J_X6_in v1 1 6 σ) (fun w2 t1 => jvI w2 (fun x3 => jj (fun (x4 : Int32) (t5 : Hp) => jcv t5 a0 6 (J_X6_goesOn a0 x4 t5) (fun w7 t6 => jvI w7 (fun x8 => (if x8 = 0 then some (.inl (some (.int 0)), t6) else jgR t6 a0 6 21 (fun r9 => jdr r9 (fun b10 => jaI t6 b10 (v1 - 1) (fun x11 => some (.inl (some (.int x11)), t6))))))) (fun E t => some (.inr E, t))) (fun j16 => (if x3 = 0 then j16 1 t1 else j16 0 t1)))) (fun E t => some (.inr E, t))
set_option maxHeartbeats 4000000 in
set_option maxRecDepth 100000 in
theorem k_X6_strikes (l : Launch) (hst : l.stackTraces = false) (g : jG)   (a0 : Nat) (v1 : Int32) (σ : Hp) (o : jO) (τ : Hp) (h : J_X6_strikes a0 v1 σ = some (o, τ)) : jMet l g yX6_strikes (Cond.code yX6_strikes cX6_strikes 2 (some FieldType.int) :: gT) ({ frames := 2, cells := 0, slots := 0, locals := 34 } : Room) 0 0 [.ref a0, .int v1] σ o τ := by
  refine j_start l hst (own := RX6) (by decide) rfl (Nat.le_of_ble_eq_true rfl) ?_
  intro p e s m args below meth c C hE hin
  unfold J_X6_strikes at h
  show jW p l e ({ frames := 2, cells := 0, slots := 0, locals := 34 } : Room) s m args below meth c g (jQ below g o τ args s 0 0) 0 0 0 [(0, .ref a0), (1, .int v1)] [] σ
  refine r_aload_n C (x := some a0) 1 rfl 0 dX6_strikes_0 rfl ?_
  refine r_iload_n C 2 rfl 1 dX6_strikes_1 rfl ?_
  refine r_iconst C (v := 1) 3 rfl dX6_strikes_2 (by decide) ?_
  refine r_bipush C (v := 6) 5 rfl dX6_strikes_3 (by decide) ?_
  refine r_callS C mm_X6_77 st_yX6_in 8 0 0 rfl rfl rfl dX6_strikes_5 rfl rfl (As := [.int v1, .int 1, .int 6]) rfl rfl (Nat.le_of_ble_eq_true rfl) ⟨Nat.le_of_ble_eq_true rfl, Nat.le_of_ble_eq_true rfl⟩ ⟨(Nat.le_of_ble_eq_true rfl), (Nat.le_of_ble_eq_true rfl)⟩ (fun o t h => k_X6_in l hst g _ _ _ _ o t h) h (fun w2 t1 h => ?_) (fun E t h => r_out C (fun x hx => (hE x hx).elim) (Nat.le_refl _) (Nat.le_refl _) h)
  replace h := jvI_some h
  obtain ⟨x3, rfl, h⟩ := h
  obtain ⟨j16, hj16E, h⟩ := jj_some h
  have hj16 : ∀ (x4 : Int32) (t5 : Hp), j16 x4 t5 = some (o, τ) → jW p l e ({ frames := 2, cells := 0, slots := 0, locals := 34 } : Room) s m args below meth c g (jQ below g o τ args s 0 0) 0 0 16 [(0, .ref a0), (1, .int v1)] [.int x4, .ref a0] t5 := by
    subst hj16E
    intro x4 t5 h
    refine r_callV C (ci := 6) mm_X6_84 im_yX6_goesOn se_yX6_goesOn rfl 19 0 0 rfl rfl rfl dX6_strikes_16 rfl rfl (As := [.int x4]) rfl rfl (Nat.le_of_ble_eq_true rfl) ⟨Nat.le_of_ble_eq_true rfl, Nat.le_of_ble_eq_true rfl⟩ ⟨(Nat.le_of_ble_eq_true rfl), (Nat.le_of_ble_eq_true rfl)⟩ (fun o t h => k_X6_goesOn l hst g _ _ _ o t h) h (fun w7 t6 h => ?_) (fun E t h => r_out C (fun x hx => (hE x hx).elim) (Nat.le_refl _) (Nat.le_refl _) h)
    replace h := jvI_some h
    obtain ⟨x8, rfl, h⟩ := h
    refine r_if_eq C 33 22 rfl dX6_strikes_19 (by decide) h (fun h => ?_) (fun h => ?_)
    · refine r_iconst C (v := 0) 34 rfl dX6_strikes_33 (by decide) ?_
      exact r_iret C dX6_strikes_34 (Nat.le_refl _) (Nat.le_refl _) h
    · refine r_aload_n C (x := some a0) 23 rfl 0 dX6_strikes_22 rfl ?_
      refine r_getR C 26 rfl ff_X6_59 dX6_strikes_23 h (fun r9 h => ?_)
      refine r_iload_n C 27 rfl 1 dX6_strikes_26 rfl ?_
      refine r_iconst C (v := 1) 28 rfl dX6_strikes_27 (by decide) ?_
      refine r_isub C 29 rfl dX6_strikes_28 ?_
      replace h := jdr_some h
      obtain ⟨b10, hr, h⟩ := h
      rw [hr]
      refine r_iald C 30 rfl dX6_strikes_29 h (fun x11 h => ?_)
      refine r_goto C 34 dX6_strikes_30 (by decide) ?_
      exact r_iret C dX6_strikes_34 (Nat.le_refl _) (Nat.le_refl _) h
  clear hj16E
  refine r_if_eq C 15 11 rfl dX6_strikes_8 (by decide) h (fun h => ?_) (fun h => ?_)
  · refine r_iconst C (v := 1) 16 rfl dX6_strikes_15 (by decide) ?_
    exact hj16 1 t1 h
  · refine r_iconst C (v := 0) 12 rfl dX6_strikes_11 (by decide) ?_
    refine r_goto C 16 dX6_strikes_12 (by decide) ?_
    exact hj16 0 t1 h

def J_X6_mark  (a0 : Nat) (v1 : Int32) (v2 : Int32) (v3 : Int32) (v4 : Int32) (σ : Hp) : jR := jcs (J_X6_in v1 0 1 σ) (fun w2 t1 => jvI w2 (fun x3 => jj (fun (x4 : Int32) (t5 : Hp) => jcv t5 a0 6 (J_X6_goesOn a0 x4 t5) (fun w7 t6 => jvI w7 (fun x8 => (if x8 = 0 then jrt .boolean 0 t6 else jj (fun (x9 : Int32) (t10 : Hp) => jgR t10 a0 6 19 (fun r11 => jdr r11 (fun b12 => jsI t10 b12 (((240 * v1) + (40 * v2)) + v3) x9 (fun t13 => jgR t13 a0 6 19 (fun r14 => jdr r14 (fun b15 => jaI t13 b15 (((240 * (1 - v1)) + (40 * v2)) + v3) (fun x16 => (if x16 = x9 then jrt .boolean 1 t13 else jrt .boolean 0 t13)))))))) (fun j42 => (if v4 = 0 then j42 2 t6 else j42 1 t6))))) (fun E t => some (.inr E, t))) (fun j24 => jj (fun (t17 : Hp) => j24 1 t17) (fun j23 => (if x3 = 0 then j23 t1 else jcv t1 a0 6 (J_X6_isWord a0 v2 v3 t1) (fun w19 t18 => jvI w19 (fun x20 => (if x20 = 0 then j23 t18 else j24 0 t18))) (fun E t => some (.inr E, t))))))) (fun E t => some (.inr E, t))
set_option maxHeartbeats 4000000 in
set_option maxRecDepth 100000 in
theorem k_X6_mark (l : Launch) (hst : l.stackTraces = false) (g : jG)   (a0 : Nat) (v1 : Int32) (v2 : Int32) (v3 : Int32) (v4 : Int32) (σ : Hp) (o : jO) (τ : Hp) (h : J_X6_mark a0 v1 v2 v3 v4 σ = some (o, τ)) : jMet l g yX6_mark (Cond.code yX6_mark cX6_mark 6 (some FieldType.boolean) :: gT) ({ frames := 4, cells := 0, slots := 0, locals := 80 } : Room) 0 0 [.ref a0, .int v1, .int v2, .int v3, .int v4] σ o τ := by
  refine j_start l hst (own := RX6) (by decide) rfl (Nat.le_of_ble_eq_true rfl) ?_
  intro p e s m args below meth c C hE hin
  unfold J_X6_mark at h
  show jW p l e ({ frames := 4, cells := 0, slots := 0, locals := 80 } : Room) s m args below meth c g (jQ below g o τ args s 0 0) 0 0 0 [(0, .ref a0), (1, .int v1), (2, .int v2), (3, .int v3), (4, .int v4)] [] σ
  refine r_aload_n C (x := some a0) 1 rfl 0 dX6_mark_0 rfl ?_
  refine r_iload_n C 2 rfl 1 dX6_mark_1 rfl ?_
  refine r_iconst C (v := 0) 3 rfl dX6_mark_2 (by decide) ?_
  refine r_iconst C (v := 1) 4 rfl dX6_mark_3 (by decide) ?_
  refine r_callS C mm_X6_77 st_yX6_in 7 0 0 rfl rfl rfl dX6_mark_4 rfl rfl (As := [.int v1, .int 0, .int 1]) rfl rfl (Nat.le_of_ble_eq_true rfl) ⟨Nat.le_of_ble_eq_true rfl, Nat.le_of_ble_eq_true rfl⟩ ⟨(Nat.le_of_ble_eq_true rfl), (Nat.le_of_ble_eq_true rfl)⟩ (fun o t h => k_X6_in l hst g _ _ _ _ o t h) h (fun w2 t1 h => ?_) (fun E t h => r_out C (fun x hx => (hE x hx).elim) (Nat.le_refl _) (Nat.le_refl _) h)
  replace h := jvI_some h
  obtain ⟨x3, rfl, h⟩ := h
  obtain ⟨j24, hj24E, h⟩ := jj_some h
  have hj24 : ∀ (x4 : Int32) (t5 : Hp), j24 x4 t5 = some (o, τ) → jW p l e ({ frames := 4, cells := 0, slots := 0, locals := 80 } : Room) s m args below meth c g (jQ below g o τ args s 0 0) 0 0 24 [(0, .ref a0), (1, .int v1), (2, .int v2), (3, .int v3), (4, .int v4)] [.int x4, .ref a0] t5 := by
    subst hj24E
    intro x4 t5 h
    refine r_callV C (ci := 6) mm_X6_84 im_yX6_goesOn se_yX6_goesOn rfl 27 0 0 rfl rfl rfl dX6_mark_24 rfl rfl (As := [.int x4]) rfl rfl (Nat.le_of_ble_eq_true rfl) ⟨Nat.le_of_ble_eq_true rfl, Nat.le_of_ble_eq_true rfl⟩ ⟨(Nat.le_of_ble_eq_true rfl), (Nat.le_of_ble_eq_true rfl)⟩ (fun o t h => k_X6_goesOn l hst g _ _ _ o t h) h (fun w7 t6 h => ?_) (fun E t h => r_out C (fun x hx => (hE x hx).elim) (Nat.le_refl _) (Nat.le_refl _) h)
    replace h := jvI_some h
    obtain ⟨x8, rfl, h⟩ := h
    refine r_if_ne C 32 30 rfl dX6_mark_27 (by decide) h (fun h => ?_) (fun h => ?_)
    · refine r_iload C 34 rfl 4 dX6_mark_32 rfl ?_
      obtain ⟨j42, hj42E, h⟩ := jj_some h
      have hj42 : ∀ (x9 : Int32) (t10 : Hp), j42 x9 t10 = some (o, τ) → jW p l e ({ frames := 4, cells := 0, slots := 0, locals := 80 } : Room) s m args below meth c g (jQ below g o τ args s 0 0) 0 0 42 [(0, .ref a0), (1, .int v1), (2, .int v2), (3, .int v3)] [.int x9] t10 := by
        subst hj42E
        intro x9 t10 h
        refine r_istore C 44 rfl [(5, .int x9), (0, .ref a0), (1, .int v1), (2, .int v2), (3, .int v3)] dX6_mark_42 (by decide) rfl ?_
        refine r_aload_n C (x := some a0) 45 rfl 1 dX6_mark_44 rfl ?_
        refine r_getR C 48 rfl ff_X6_53 dX6_mark_45 h (fun r11 h => ?_)
        refine r_sipush C (v := 240) 51 rfl dX6_mark_48 (by decide) ?_
        refine r_iload_n C 52 rfl 2 dX6_mark_51 rfl ?_
        refine r_imul C 53 rfl dX6_mark_52 ?_
        refine r_bipush C (v := 40) 55 rfl dX6_mark_53 (by decide) ?_
        refine r_iload_n C 56 rfl 3 dX6_mark_55 rfl ?_
        refine r_imul C 57 rfl dX6_mark_56 ?_
        refine r_iadd C 58 rfl dX6_mark_57 ?_
        refine r_iload_n C 59 rfl 4 dX6_mark_58 rfl ?_
        refine r_iadd C 60 rfl dX6_mark_59 ?_
        refine r_iload C 62 rfl 0 dX6_mark_60 rfl ?_
        replace h := jdr_some h
        obtain ⟨b12, hr, h⟩ := h
        rw [hr]
        refine r_iast C 63 rfl dX6_mark_62 h (fun t13 h => ?_)
        refine r_aload_n C (x := some a0) 64 rfl 1 dX6_mark_63 rfl ?_
        refine r_getR C 67 rfl ff_X6_53 dX6_mark_64 h (fun r14 h => ?_)
        refine r_sipush C (v := 240) 70 rfl dX6_mark_67 (by decide) ?_
        refine r_iconst C (v := 1) 71 rfl dX6_mark_70 (by decide) ?_
        refine r_iload_n C 72 rfl 2 dX6_mark_71 rfl ?_
        refine r_isub C 73 rfl dX6_mark_72 ?_
        refine r_imul C 74 rfl dX6_mark_73 ?_
        refine r_bipush C (v := 40) 76 rfl dX6_mark_74 (by decide) ?_
        refine r_iload_n C 77 rfl 3 dX6_mark_76 rfl ?_
        refine r_imul C 78 rfl dX6_mark_77 ?_
        refine r_iadd C 79 rfl dX6_mark_78 ?_
        refine r_iload_n C 80 rfl 4 dX6_mark_79 rfl ?_
        refine r_iadd C 81 rfl dX6_mark_80 ?_
        replace h := jdr_some h
        obtain ⟨b15, hr, h⟩ := h
        rw [hr]
        refine r_iald C 82 rfl dX6_mark_81 h (fun x16 h => ?_)
        refine r_iload C 84 rfl 0 dX6_mark_82 rfl ?_
        refine r_icmp_ne C 91 87 rfl dX6_mark_84 (by decide) h (fun h => ?_) (fun h => ?_)
        · refine r_iconst C (v := 0) 92 rfl dX6_mark_91 (by decide) ?_
          exact r_zret C (fun _ => rfl) dX6_mark_92 (Nat.le_refl _) (Nat.le_refl _) h
        · refine r_iconst C (v := 1) 88 rfl dX6_mark_87 (by decide) ?_
          refine r_goto C 92 dX6_mark_88 (by decide) ?_
          exact r_zret C (fun _ => rfl) dX6_mark_92 (Nat.le_refl _) (Nat.le_refl _) h
      clear hj42E
      refine r_if_eq C 41 37 rfl dX6_mark_34 (by decide) h (fun h => ?_) (fun h => ?_)
      · refine r_iconst C (v := 2) 42 rfl dX6_mark_41 (by decide) ?_
        refine r_lv [0, 1, 2, 3] rfl ?_
        exact hj42 2 t6 h
      · refine r_iconst C (v := 1) 38 rfl dX6_mark_37 (by decide) ?_
        refine r_goto C 42 dX6_mark_38 (by decide) ?_
        refine r_lv [0, 1, 2, 3] rfl ?_
        exact hj42 1 t6 h
    · refine r_iconst C (v := 0) 31 rfl dX6_mark_30 (by decide) ?_
      exact r_zret C (fun _ => rfl) dX6_mark_31 (Nat.le_refl _) (Nat.le_refl _) h
  clear hj24E
  obtain ⟨j23, hj23E, h⟩ := jj_some h
  have hj23 : ∀ (t17 : Hp), j23 t17 = some (o, τ) → jW p l e ({ frames := 4, cells := 0, slots := 0, locals := 80 } : Room) s m args below meth c g (jQ below g o τ args s 0 0) 0 0 23 [(0, .ref a0), (1, .int v1), (2, .int v2), (3, .int v3), (4, .int v4)] [.ref a0] t17 := by
    subst hj23E
    intro t17 h
    refine r_iconst C (v := 1) 24 rfl dX6_mark_23 (by decide) ?_
    exact hj24 1 t17 h
  clear hj23E
  refine r_if_eq C 23 10 rfl dX6_mark_7 (by decide) h (fun h => ?_) (fun h => ?_)
  · exact hj23 t1 h
  · refine r_aload_n C (x := some a0) 11 rfl 0 dX6_mark_10 rfl ?_
    refine r_iload_n C 12 rfl 2 dX6_mark_11 rfl ?_
    refine r_iload_n C 13 rfl 3 dX6_mark_12 rfl ?_
    refine r_callV C (ci := 6) mm_X6_174 im_yX6_isWord se_yX6_isWord rfl 16 0 0 rfl rfl rfl dX6_mark_13 rfl rfl (As := [.int v2, .int v3]) rfl rfl (Nat.le_of_ble_eq_true rfl) ⟨Nat.le_of_ble_eq_true rfl, Nat.le_of_ble_eq_true rfl⟩ ⟨(Nat.le_of_ble_eq_true rfl), (Nat.le_of_ble_eq_true rfl)⟩ (fun o t h => k_X6_isWord l hst g _ _ _ _ o t h) h (fun w19 t18 h => ?_) (fun E t h => r_out C (fun x hx => (hE x hx).elim) (Nat.le_refl _) (Nat.le_refl _) h)
    replace h := jvI_some h
    obtain ⟨x20, rfl, h⟩ := h
    refine r_if_eq C 23 19 rfl dX6_mark_16 (by decide) h (fun h => ?_) (fun h => ?_)
    · exact hj23 t18 h
    · refine r_iconst C (v := 0) 20 rfl dX6_mark_19 (by decide) ?_
      refine r_goto C 24 dX6_mark_20 (by decide) ?_
      exact hj24 0 t18 h

def J_X6_markOf  (a0 : Nat) (v1 : Int32) (v2 : Int32) (v3 : Int32) (σ : Hp) : jR := jcs (J_X6_in v1 0 1 σ) (fun w2 t1 => jvI w2 (fun x3 => jj (fun (x4 : Int32) (t5 : Hp) => jcv t5 a0 6 (J_X6_goesOn a0 x4 t5) (fun w7 t6 => jvI w7 (fun x8 => (if x8 = 0 then jrt .char 0 t6 else jgR t6 a0 6 19 (fun r9 => jdr r9 (fun b10 => jaI t6 b10 (((240 * v1) + (40 * v2)) + v3) (fun x11 => (if x11 = 0 then jrt .char 45 t6 else (if x11 = 1 then jrt .char 114 t6 else jrt .char 119 t6)))))))) (fun E t => some (.inr E, t))) (fun j24 => jj (fun (t12 : Hp) => j24 1 t12) (fun j23 => (if x3 = 0 then j23 t1 else jcv t1 a0 6 (J_X6_isWord a0 v2 v3 t1) (fun w14 t13 => jvI w14 (fun x15 => (if x15 = 0 then j23 t13 else j24 0 t13))) (fun E t => some (.inr E, t))))))) (fun E t => some (.inr E, t))
set_option maxHeartbeats 4000000 in
set_option maxRecDepth 100000 in
theorem k_X6_markOf (l : Launch) (hst : l.stackTraces = false) (g : jG)   (a0 : Nat) (v1 : Int32) (v2 : Int32) (v3 : Int32) (σ : Hp) (o : jO) (τ : Hp) (h : J_X6_markOf a0 v1 v2 v3 σ = some (o, τ)) : jMet l g yX6_markOf (Cond.code yX6_markOf cX6_markOf 5 (some FieldType.char) :: gT) ({ frames := 4, cells := 0, slots := 0, locals := 80 } : Room) 0 0 [.ref a0, .int v1, .int v2, .int v3] σ o τ := by
  refine j_start l hst (own := RX6) (by decide) rfl (Nat.le_of_ble_eq_true rfl) ?_
  intro p e s m args below meth c C hE hin
  unfold J_X6_markOf at h
  show jW p l e ({ frames := 4, cells := 0, slots := 0, locals := 80 } : Room) s m args below meth c g (jQ below g o τ args s 0 0) 0 0 0 [(0, .ref a0), (1, .int v1), (2, .int v2), (3, .int v3)] [] σ
  refine r_aload_n C (x := some a0) 1 rfl 0 dX6_markOf_0 rfl ?_
  refine r_iload_n C 2 rfl 1 dX6_markOf_1 rfl ?_
  refine r_iconst C (v := 0) 3 rfl dX6_markOf_2 (by decide) ?_
  refine r_iconst C (v := 1) 4 rfl dX6_markOf_3 (by decide) ?_
  refine r_callS C mm_X6_77 st_yX6_in 7 0 0 rfl rfl rfl dX6_markOf_4 rfl rfl (As := [.int v1, .int 0, .int 1]) rfl rfl (Nat.le_of_ble_eq_true rfl) ⟨Nat.le_of_ble_eq_true rfl, Nat.le_of_ble_eq_true rfl⟩ ⟨(Nat.le_of_ble_eq_true rfl), (Nat.le_of_ble_eq_true rfl)⟩ (fun o t h => k_X6_in l hst g _ _ _ _ o t h) h (fun w2 t1 h => ?_) (fun E t h => r_out C (fun x hx => (hE x hx).elim) (Nat.le_refl _) (Nat.le_refl _) h)
  replace h := jvI_some h
  obtain ⟨x3, rfl, h⟩ := h
  obtain ⟨j24, hj24E, h⟩ := jj_some h
  have hj24 : ∀ (x4 : Int32) (t5 : Hp), j24 x4 t5 = some (o, τ) → jW p l e ({ frames := 4, cells := 0, slots := 0, locals := 80 } : Room) s m args below meth c g (jQ below g o τ args s 0 0) 0 0 24 [(0, .ref a0), (1, .int v1), (2, .int v2), (3, .int v3)] [.int x4, .ref a0] t5 := by
    subst hj24E
    intro x4 t5 h
    refine r_callV C (ci := 6) mm_X6_84 im_yX6_goesOn se_yX6_goesOn rfl 27 0 0 rfl rfl rfl dX6_markOf_24 rfl rfl (As := [.int x4]) rfl rfl (Nat.le_of_ble_eq_true rfl) ⟨Nat.le_of_ble_eq_true rfl, Nat.le_of_ble_eq_true rfl⟩ ⟨(Nat.le_of_ble_eq_true rfl), (Nat.le_of_ble_eq_true rfl)⟩ (fun o t h => k_X6_goesOn l hst g _ _ _ o t h) h (fun w7 t6 h => ?_) (fun E t h => r_out C (fun x hx => (hE x hx).elim) (Nat.le_refl _) (Nat.le_refl _) h)
    replace h := jvI_some h
    obtain ⟨x8, rfl, h⟩ := h
    refine r_if_ne C 32 30 rfl dX6_markOf_27 (by decide) h (fun h => ?_) (fun h => ?_)
    · refine r_aload_n C (x := some a0) 33 rfl 0 dX6_markOf_32 rfl ?_
      refine r_getR C 36 rfl ff_X6_53 dX6_markOf_33 h (fun r9 h => ?_)
      refine r_sipush C (v := 240) 39 rfl dX6_markOf_36 (by decide) ?_
      refine r_iload_n C 40 rfl 1 dX6_markOf_39 rfl ?_
      refine r_imul C 41 rfl dX6_markOf_40 ?_
      refine r_bipush C (v := 40) 43 rfl dX6_markOf_41 (by decide) ?_
      refine r_iload_n C 44 rfl 2 dX6_markOf_43 rfl ?_
      refine r_imul C 45 rfl dX6_markOf_44 ?_
      refine r_iadd C 46 rfl dX6_markOf_45 ?_
      refine r_iload_n C 47 rfl 3 dX6_markOf_46 rfl ?_
      refine r_iadd C 48 rfl dX6_markOf_47 ?_
      replace h := jdr_some h
      obtain ⟨b10, hr, h⟩ := h
      rw [hr]
      refine r_iald C 49 rfl dX6_markOf_48 h (fun x11 h => ?_)
      refine r_istore C 51 rfl [(4, .int x11), (0, .ref a0), (1, .int v1), (2, .int v2), (3, .int v3)] dX6_markOf_49 (by decide) rfl ?_
      refine r_iload C 53 rfl 0 dX6_markOf_51 rfl ?_
      refine r_if_ne C 61 56 rfl dX6_markOf_53 (by decide) h (fun h => ?_) (fun h => ?_)
      · refine r_iload C 63 rfl 0 dX6_markOf_61 rfl ?_
        refine r_iconst C (v := 1) 64 rfl dX6_markOf_63 (by decide) ?_
        refine r_icmp_ne C 72 67 rfl dX6_markOf_64 (by decide) h (fun h => ?_) (fun h => ?_)
        · refine r_bipush C (v := 119) 74 rfl dX6_markOf_72 (by decide) ?_
          exact r_zret C (fun _ => rfl) dX6_markOf_74 (Nat.le_refl _) (Nat.le_refl _) h
        · refine r_bipush C (v := 114) 69 rfl dX6_markOf_67 (by decide) ?_
          refine r_goto C 74 dX6_markOf_69 (by decide) ?_
          exact r_zret C (fun _ => rfl) dX6_markOf_74 (Nat.le_refl _) (Nat.le_refl _) h
      · refine r_bipush C (v := 45) 58 rfl dX6_markOf_56 (by decide) ?_
        refine r_goto C 74 dX6_markOf_58 (by decide) ?_
        exact r_zret C (fun _ => rfl) dX6_markOf_74 (Nat.le_refl _) (Nat.le_refl _) h
    · refine r_iconst C (v := 0) 31 rfl dX6_markOf_30 (by decide) ?_
      exact r_zret C (fun _ => rfl) dX6_markOf_31 (Nat.le_refl _) (Nat.le_refl _) h
  clear hj24E
  obtain ⟨j23, hj23E, h⟩ := jj_some h
  have hj23 : ∀ (t12 : Hp), j23 t12 = some (o, τ) → jW p l e ({ frames := 4, cells := 0, slots := 0, locals := 80 } : Room) s m args below meth c g (jQ below g o τ args s 0 0) 0 0 23 [(0, .ref a0), (1, .int v1), (2, .int v2), (3, .int v3)] [.ref a0] t12 := by
    subst hj23E
    intro t12 h
    refine r_iconst C (v := 1) 24 rfl dX6_markOf_23 (by decide) ?_
    exact hj24 1 t12 h
  clear hj23E
  refine r_if_eq C 23 10 rfl dX6_markOf_7 (by decide) h (fun h => ?_) (fun h => ?_)
  · exact hj23 t1 h
  · refine r_aload_n C (x := some a0) 11 rfl 0 dX6_markOf_10 rfl ?_
    refine r_iload_n C 12 rfl 2 dX6_markOf_11 rfl ?_
    refine r_iload_n C 13 rfl 3 dX6_markOf_12 rfl ?_
    refine r_callV C (ci := 6) mm_X6_174 im_yX6_isWord se_yX6_isWord rfl 16 0 0 rfl rfl rfl dX6_markOf_13 rfl rfl (As := [.int v2, .int v3]) rfl rfl (Nat.le_of_ble_eq_true rfl) ⟨Nat.le_of_ble_eq_true rfl, Nat.le_of_ble_eq_true rfl⟩ ⟨(Nat.le_of_ble_eq_true rfl), (Nat.le_of_ble_eq_true rfl)⟩ (fun o t h => k_X6_isWord l hst g _ _ _ _ o t h) h (fun w14 t13 h => ?_) (fun E t h => r_out C (fun x hx => (hE x hx).elim) (Nat.le_refl _) (Nat.le_refl _) h)
    replace h := jvI_some h
    obtain ⟨x15, rfl, h⟩ := h
    refine r_if_eq C 23 19 rfl dX6_markOf_16 (by decide) h (fun h => ?_) (fun h => ?_)
    · exact hj23 t13 h
    · refine r_iconst C (v := 0) 20 rfl dX6_markOf_19 (by decide) ?_
      refine r_goto C 24 dX6_markOf_20 (by decide) ?_
      exact hj24 0 t13 h

def J_X6_checksum_L40b  (k79 : Nat → Int64 → Int32 → Int32 → Hp → jR) (rc : Nat → Int64 → Int32 → Int32 → Int32 → Hp → jR) (a0 : Nat) (v1 : Int64) (v3 : Int32) (v5 : Int32) (v6 : Int32) (t0 : Hp) : jR := jgR t0 a0 6 26 (fun r7 => jdr r7 (fun b8 => jaI t0 b8 v5 (fun x9 => (if x9 ≤ v6 then k79 a0 v1 v3 v5 t0 else jgR t0 a0 6 25 (fun r10 => jdr r10 (fun b11 => jaI t0 b11 ((40 * v5) + v6) (fun x12 => rc a0 ((31 * v1) + x12.toInt64) v3 v5 (v6 + 1) t0)))))))
def J_X6_checksum_L40  (k79 : Nat → Int64 → Int32 → Int32 → Hp → jR) : Nat → Nat → Int64 → Int32 → Int32 → Int32 → Hp → jR
  | 0 => fun _ _ _ _ _ _ => none
  | n + 1 => J_X6_checksum_L40b  k79 (J_X6_checksum_L40  k79 n)
def J_X6_checksum_L28b  (k85 : Nat → Int64 → Int32 → Hp → jR) (rc : Nat → Int64 → Int32 → Int32 → Hp → jR) (a0 : Nat) (v1 : Int64) (v3 : Int32) (v5 : Int32) (t0 : Hp) : jR := jgI t0 a0 6 27 (fun x6 => (if x6 ≤ v5 then k85 a0 v1 v3 t0 else J_X6_checksum_L40  (fun (x13 : Nat) (x14 : Int64) (x15 : Int32) (x16 : Int32) (t17 : Hp) => rc x13 x14 x15 (x16 + 1) t17) jN a0 v1 v3 v5 0 t0))
def J_X6_checksum_L28  (k85 : Nat → Int64 → Int32 → Hp → jR) : Nat → Nat → Int64 → Int32 → Int32 → Hp → jR
  | 0 => fun _ _ _ _ _ => none
  | n + 1 => J_X6_checksum_L28b  k85 (J_X6_checksum_L28  k85 n)
def J_X6_checksum_L9b   (rc : Nat → Int64 → Int32 → Hp → jR) (a0 : Nat) (v1 : Int64) (v3 : Int32) (t0 : Hp) : jR := jgI t0 a0 6 14 (fun x2 => (if x2 ≤ v3 then some (.inl (some (.long v1)), t0) else jcv t0 a0 6 (J_X6_breaks a0 v3 ((-1)) t0) (fun w4 t3 => jvI w4 (fun x5 => J_X6_checksum_L28  (fun (x18 : Nat) (x19 : Int64) (x20 : Int32) (t21 : Hp) => rc x18 x19 (x20 + 1) t21) jN a0 v1 v3 0 t3)) (fun E t => some (.inr E, t))))
def J_X6_checksum_L9   : Nat → Nat → Int64 → Int32 → Hp → jR
  | 0 => fun _ _ _ _ => none
  | n + 1 => J_X6_checksum_L9b   (J_X6_checksum_L9   n)
def J_X6_checksum  (a0 : Nat) (σ : Hp) : jR := jpI σ a0 6 0 0 (fun t1 => J_X6_checksum_L9   jN a0 0 0 t1)
set_option maxHeartbeats 4000000 in
set_option maxRecDepth 100000 in
theorem w_X6_checksum_L40 (l : Launch) (hst : l.stackTraces = false) {p : Program} {e : Env} {s : State} {m : MethodId} {args : Array Value} {below : List Frame} {meth : Method} {c : Code} {g : jG} {o : jO} {τ : Hp}  (C : jC p l s m args meth c g RX6 cX6_checksum 7 (some FieldType.long)) (hE : ∀ x ∈ c.exceptionTable.toList, False) (k79 : Nat → Int64 → Int32 → Int32 → Hp → jR) (hk79 : ∀ (a0x : Nat) (v1x : Int64) (v3x : Int32) (v5x : Int32) (tx : Hp), k79 a0x v1x v3x v5x tx = some (o, τ) → jW p l e ({ frames := 8, cells := 0, slots := 0, locals := 184 } : Room) s m args below meth c g (jQ below g o τ args s 0 0) 0 0 79 [(0, .ref a0x), (1, .long v1x), (3, .int v3x), (5, .int v5x)] [] tx) : ∀ (n : Nat) (a0 : Nat) (v1 : Int64) (v3 : Int32) (v5 : Int32) (v6 : Int32) (t0 : Hp), J_X6_checksum_L40  k79 n a0 v1 v3 v5 v6 t0 = some (o, τ) → jW p l e ({ frames := 8, cells := 0, slots := 0, locals := 184 } : Room) s m args below meth c g (jQ below g o τ args s 0 0) 0 0 40 [(0, .ref a0), (1, .long v1), (3, .int v3), (5, .int v5), (6, .int v6)] [] t0 := by
  intro n
  induction n with
  | zero => intro a0 v1 v3 v5 v6 t0 h; cases h
  | succ n ih =>
    intro a0 v1 v3 v5 v6 t0 h
    have h : J_X6_checksum_L40b  k79 (J_X6_checksum_L40  k79 n) a0 v1 v3 v5 v6 t0 = some (o, τ) := h
    unfold J_X6_checksum_L40b at h
    refine r_iload C 42 rfl 4 dX6_checksum_40 rfl ?_
    refine r_aload_n C (x := some a0) 43 rfl 0 dX6_checksum_42 rfl ?_
    refine r_getR C 46 rfl ff_X6_71 dX6_checksum_43 h (fun r7 h => ?_)
    refine r_iload C 48 rfl 3 dX6_checksum_46 rfl ?_
    replace h := jdr_some h
    obtain ⟨b8, hr, h⟩ := h
    rw [hr]
    refine r_iald C 49 rfl dX6_checksum_48 h (fun x9 h => ?_)
    refine r_icmp_ge C 79 52 rfl dX6_checksum_49 (by decide) h (fun h => ?_) (fun h => ?_)
    · refine r_lv [0, 1, 2, 3] rfl ?_
      exact hk79 a0 v1 v3 v5 t0 h
    · refine r_ldc2 C 55 rfl dX6_checksum_52 kl_X6_199 ?_
      refine r_lload_n C 56 rfl 1 dX6_checksum_55 rfl ?_
      refine r_lmul C 57 rfl dX6_checksum_56 ?_
      refine r_aload_n C (x := some a0) 58 rfl 0 dX6_checksum_57 rfl ?_
      refine r_getR C 61 rfl ff_X6_68 dX6_checksum_58 h (fun r10 h => ?_)
      refine r_bipush C (v := 40) 63 rfl dX6_checksum_61 (by decide) ?_
      refine r_iload C 65 rfl 3 dX6_checksum_63 rfl ?_
      refine r_imul C 66 rfl dX6_checksum_65 ?_
      refine r_iload C 68 rfl 4 dX6_checksum_66 rfl ?_
      refine r_iadd C 69 rfl dX6_checksum_68 ?_
      replace h := jdr_some h
      obtain ⟨b11, hr, h⟩ := h
      rw [hr]
      refine r_iald C 70 rfl dX6_checksum_69 h (fun x12 h => ?_)
      refine r_i2l C 71 rfl dX6_checksum_70 ?_
      refine r_ladd C 72 rfl dX6_checksum_71 ?_
      refine r_lstore_n C 73 rfl [(1, .long ((31 * v1) + x12.toInt64)), (0, .ref a0), (3, .int v3), (5, .int v5), (6, .int v6)] dX6_checksum_72 (by decide) rfl ?_
      refine r_iinc C (v := v6 + 1) 76 rfl 4 [(6, .int (v6 + 1)), (1, .long ((31 * v1) + x12.toInt64)), (0, .ref a0), (3, .int v3), (5, .int v5)] dX6_checksum_73 rfl rfl (by decide) rfl ?_
      refine r_goto C 40 dX6_checksum_76 (by decide) ?_
      refine r_lv [2, 1, 3, 4, 0] rfl ?_
      exact ih a0 ((31 * v1) + x12.toInt64) v3 v5 (v6 + 1) t0 h
set_option maxHeartbeats 4000000 in
set_option maxRecDepth 100000 in
theorem w_X6_checksum_L28 (l : Launch) (hst : l.stackTraces = false) {p : Program} {e : Env} {s : State} {m : MethodId} {args : Array Value} {below : List Frame} {meth : Method} {c : Code} {g : jG} {o : jO} {τ : Hp}  (C : jC p l s m args meth c g RX6 cX6_checksum 7 (some FieldType.long)) (hE : ∀ x ∈ c.exceptionTable.toList, False) (k85 : Nat → Int64 → Int32 → Hp → jR) (hk85 : ∀ (a0x : Nat) (v1x : Int64) (v3x : Int32) (tx : Hp), k85 a0x v1x v3x tx = some (o, τ) → jW p l e ({ frames := 8, cells := 0, slots := 0, locals := 184 } : Room) s m args below meth c g (jQ below g o τ args s 0 0) 0 0 85 [(0, .ref a0x), (1, .long v1x), (3, .int v3x)] [] tx) : ∀ (n : Nat) (a0 : Nat) (v1 : Int64) (v3 : Int32) (v5 : Int32) (t0 : Hp), J_X6_checksum_L28  k85 n a0 v1 v3 v5 t0 = some (o, τ) → jW p l e ({ frames := 8, cells := 0, slots := 0, locals := 184 } : Room) s m args below meth c g (jQ below g o τ args s 0 0) 0 0 28 [(0, .ref a0), (1, .long v1), (3, .int v3), (5, .int v5)] [] t0 := by
  intro n
  induction n with
  | zero => intro a0 v1 v3 v5 t0 h; cases h
  | succ n ih =>
    intro a0 v1 v3 v5 t0 h
    have h : J_X6_checksum_L28b  k85 (J_X6_checksum_L28  k85 n) a0 v1 v3 v5 t0 = some (o, τ) := h
    unfold J_X6_checksum_L28b at h
    refine r_iload C 30 rfl 3 dX6_checksum_28 rfl ?_
    refine r_aload_n C (x := some a0) 31 rfl 0 dX6_checksum_30 rfl ?_
    refine r_getI C 34 rfl ff_X6_177 dX6_checksum_31 h (fun x6 h => ?_)
    refine r_icmp_ge C 85 37 rfl dX6_checksum_34 (by decide) h (fun h => ?_) (fun h => ?_)
    · refine r_lv [0, 1, 2] rfl ?_
      exact hk85 a0 v1 v3 t0 h
    · refine r_iconst C (v := 0) 38 rfl dX6_checksum_37 (by decide) ?_
      refine r_istore C 40 rfl [(6, .int 0), (0, .ref a0), (1, .long v1), (3, .int v3), (5, .int v5)] dX6_checksum_38 (by decide) rfl ?_
      refine r_lv [1, 2, 3, 4, 0] rfl ?_
      refine w_X6_checksum_L40 l hst  C hE _ (fun x13 x14 x15 x16 t17 h => ?_) jN a0 v1 v3 v5 0 t0 h
      refine r_iinc C (v := x16 + 1) 82 rfl 3 [(5, .int (x16 + 1)), (0, .ref x13), (1, .long x14), (3, .int x15)] dX6_checksum_79 rfl rfl (by decide) rfl ?_
      refine r_goto C 28 dX6_checksum_82 (by decide) ?_
      refine r_lv [1, 2, 3, 0] rfl ?_
      exact ih x13 x14 x15 (x16 + 1) t17 h
set_option maxHeartbeats 4000000 in
set_option maxRecDepth 100000 in
theorem w_X6_checksum_L9 (l : Launch) (hst : l.stackTraces = false) {p : Program} {e : Env} {s : State} {m : MethodId} {args : Array Value} {below : List Frame} {meth : Method} {c : Code} {g : jG} {o : jO} {τ : Hp}  (C : jC p l s m args meth c g RX6 cX6_checksum 7 (some FieldType.long)) (hE : ∀ x ∈ c.exceptionTable.toList, False)  : ∀ (n : Nat) (a0 : Nat) (v1 : Int64) (v3 : Int32) (t0 : Hp), J_X6_checksum_L9   n a0 v1 v3 t0 = some (o, τ) → jW p l e ({ frames := 8, cells := 0, slots := 0, locals := 184 } : Room) s m args below meth c g (jQ below g o τ args s 0 0) 0 0 9 [(0, .ref a0), (1, .long v1), (3, .int v3)] [] t0 := by
  intro n
  induction n with
  | zero => intro a0 v1 v3 t0 h; cases h
  | succ n ih =>
    intro a0 v1 v3 t0 h
    have h : J_X6_checksum_L9b   (J_X6_checksum_L9   n) a0 v1 v3 t0 = some (o, τ) := h
    unfold J_X6_checksum_L9b at h
    refine r_iload_n C 10 rfl 2 dX6_checksum_9 rfl ?_
    refine r_aload_n C (x := some a0) 11 rfl 0 dX6_checksum_10 rfl ?_
    refine r_getI C 14 rfl ff_X6_162 dX6_checksum_11 h (fun x2 h => ?_)
    refine r_icmp_ge C 91 17 rfl dX6_checksum_14 (by decide) h (fun h => ?_) (fun h => ?_)
    · refine r_lload_n C 92 rfl 1 dX6_checksum_91 rfl ?_
      exact r_lret C dX6_checksum_92 (Nat.le_refl _) (Nat.le_refl _) h
    · refine r_aload_n C (x := some a0) 18 rfl 0 dX6_checksum_17 rfl ?_
      refine r_iload_n C 19 rfl 2 dX6_checksum_18 rfl ?_
      refine r_iconst C (v := (-1)) 20 rfl dX6_checksum_19 (by decide) ?_
      refine r_callV C (ci := 6) mm_X6_187 im_yX6_breaks se_yX6_breaks rfl 23 0 0 rfl rfl rfl dX6_checksum_20 rfl rfl (As := [.int v3, .int ((-1))]) rfl rfl (Nat.le_of_ble_eq_true rfl) ⟨Nat.le_of_ble_eq_true rfl, Nat.le_of_ble_eq_true rfl⟩ ⟨(Nat.le_of_ble_eq_true rfl), (Nat.le_of_ble_eq_true rfl)⟩ (fun o t h => k_X6_breaks l hst g _ _ _ _ o t h) h (fun w4 t3 h => ?_) (fun E t h => r_out C (fun x hx => (hE x hx).elim) (Nat.le_refl _) (Nat.le_refl _) h)
      replace h := jvI_some h
      obtain ⟨x5, rfl, h⟩ := h
      refine r_istore C 25 rfl [(4, .int x5), (0, .ref a0), (1, .long v1), (3, .int v3)] dX6_checksum_23 (by decide) rfl ?_
      refine r_iconst C (v := 0) 26 rfl dX6_checksum_25 (by decide) ?_
      refine r_istore C 28 rfl [(5, .int 0), (4, .int x5), (0, .ref a0), (1, .long v1), (3, .int v3)] dX6_checksum_26 (by decide) rfl ?_
      refine r_lv [2, 3, 4, 0] rfl ?_
      refine w_X6_checksum_L28 l hst  C hE _ (fun x18 x19 x20 t21 h => ?_) jN a0 v1 v3 0 t3 h
      refine r_iinc C (v := x20 + 1) 88 rfl 2 [(3, .int (x20 + 1)), (0, .ref x18), (1, .long x19)] dX6_checksum_85 rfl rfl (by decide) rfl ?_
      refine r_goto C 9 dX6_checksum_88 (by decide) ?_
      refine r_lv [1, 2, 0] rfl ?_
      exact ih x18 x19 (x20 + 1) t21 h
set_option maxHeartbeats 4000000 in
set_option maxRecDepth 100000 in
theorem k_X6_checksum (l : Launch) (hst : l.stackTraces = false) (g : jG)   (a0 : Nat) (σ : Hp) (o : jO) (τ : Hp) (h : J_X6_checksum a0 σ = some (o, τ)) : jMet l g yX6_checksum (Cond.code yX6_checksum cX6_checksum 7 (some FieldType.long) :: gT) ({ frames := 8, cells := 0, slots := 0, locals := 184 } : Room) 0 0 [.ref a0] σ o τ := by
  refine j_start l hst (own := RX6) (by decide) rfl (Nat.le_of_ble_eq_true rfl) ?_
  intro p e s m args below meth c C hE hin
  unfold J_X6_checksum at h
  show jW p l e ({ frames := 8, cells := 0, slots := 0, locals := 184 } : Room) s m args below meth c g (jQ below g o τ args s 0 0) 0 0 0 [(0, .ref a0)] [] σ
  refine r_aload_n C (x := some a0) 1 rfl 0 dX6_checksum_0 rfl ?_
  refine r_iconst C (v := 0) 2 rfl dX6_checksum_1 (by decide) ?_
  refine r_putI C 5 rfl fp_X6_74 dX6_checksum_2 h (fun t1 h => ?_)
  refine r_lconst C (v := 0) 6 rfl dX6_checksum_5 (by decide) ?_
  refine r_lstore_n C 7 rfl [(1, .long 0), (0, .ref a0)] dX6_checksum_6 (by decide) rfl ?_
  refine r_iconst C (v := 0) 8 rfl dX6_checksum_7 (by decide) ?_
  refine r_istore_n C 9 rfl [(3, .int 0), (1, .long 0), (0, .ref a0)] dX6_checksum_8 (by decide) rfl ?_
  refine r_lv [2, 1, 0] rfl ?_
  refine w_X6_checksum_L9 l hst  C hE  jN a0 0 0 t1 h

def J_X6_provedShare_L29b  (k86 : Nat → Int32 → Int32 → Int32 → Hp → jR) (rc : Nat → Int32 → Int32 → Int32 → Int32 → Int32 → Hp → jR) (a0 : Nat) (v1 : Int32) (v2 : Int32) (v3 : Int32) (v4 : Int32) (v5 : Int32) (t0 : Hp) : jR := (if v4 ≤ v5 then k86 a0 v1 v2 v3 t0 else jgR t0 a0 6 19 (fun r10 => jdr r10 (fun b11 => jaI t0 b11 ((40 * v3) + v5) (fun x12 => jj (fun (x13 : Int32) (t14 : Hp) => rc a0 v1 (v2 + x13) v3 v4 (v5 + 1) t14) (fun j78 => jj (fun (t15 : Hp) => j78 0 t15) (fun j77 => (if x12 = 1 then jgR t0 a0 6 19 (fun r16 => jdr r16 (fun b17 => jaI t0 b17 ((240 + (40 * v3)) + v5) (fun x18 => (if x18 = 1 then j78 1 t0 else j77 t0)))) else j77 t0)))))))
def J_X6_provedShare_L29  (k86 : Nat → Int32 → Int32 → Int32 → Hp → jR) : Nat → Nat → Int32 → Int32 → Int32 → Int32 → Int32 → Hp → jR
  | 0 => fun _ _ _ _ _ _ _ => none
  | n + 1 => J_X6_provedShare_L29b  k86 (J_X6_provedShare_L29  k86 n)
def J_X6_provedShare_L6b   (rc : Nat → Int32 → Int32 → Int32 → Hp → jR) (a0 : Nat) (v1 : Int32) (v2 : Int32) (v3 : Int32) (t0 : Hp) : jR := jgI t0 a0 6 14 (fun x1 => (if x1 ≤ v3 then jj (fun (x2 : Int32) (t3 : Hp) => jcv t3 a0 6 (J_X6_goesOn a0 x2 t3) (fun w5 t4 => jvI w5 (fun x6 => (if x6 = 0 then some (.inl (some (.float 0)), t4) else jn32 (FP.fdiv (FP.i2f v2) (FP.i2f v1)) (some (.inl (some (.float (FP.fdiv (FP.i2f v2) (FP.i2f v1)))), t4))))) (fun E t => some (.inr E, t))) (fun j102 => (if v1 = 0 then j102 1 t0 else j102 0 t0)) else jcv t0 a0 6 (J_X6_wordsOf a0 v3 t0) (fun w8 t7 => jvI w8 (fun x9 => J_X6_provedShare_L29  (fun (x19 : Nat) (x20 : Int32) (x21 : Int32) (x22 : Int32) (t23 : Hp) => rc x19 x20 x21 (x22 + 1) t23) jN a0 (v1 + x9) v2 v3 x9 0 t7)) (fun E t => some (.inr E, t))))
def J_X6_provedShare_L6   : Nat → Nat → Int32 → Int32 → Int32 → Hp → jR
  | 0 => fun _ _ _ _ _ => none
  | n + 1 => J_X6_provedShare_L6b   (J_X6_provedShare_L6   n)
def J_X6_provedShare  (a0 : Nat) (σ : Hp) : jR := J_X6_provedShare_L6   jN a0 0 0 0 σ
set_option maxHeartbeats 4000000 in
set_option maxRecDepth 100000 in
theorem w_X6_provedShare_L29 (l : Launch) (hst : l.stackTraces = false) {p : Program} {e : Env} {s : State} {m : MethodId} {args : Array Value} {below : List Frame} {meth : Method} {c : Code} {g : jG} {o : jO} {τ : Hp}  (C : jC p l s m args meth c g RX6 cX6_provedShare 6 (some FieldType.float)) (hE : ∀ x ∈ c.exceptionTable.toList, False) (k86 : Nat → Int32 → Int32 → Int32 → Hp → jR) (hk86 : ∀ (a0x : Nat) (v1x : Int32) (v2x : Int32) (v3x : Int32) (tx : Hp), k86 a0x v1x v2x v3x tx = some (o, τ) → jW p l e ({ frames := 3, cells := 0, slots := 0, locals := 58 } : Room) s m args below meth c g (jQ below g o τ args s 0 0) 0 0 86 [(0, .ref a0x), (1, .int v1x), (2, .int v2x), (3, .int v3x)] [] tx) : ∀ (n : Nat) (a0 : Nat) (v1 : Int32) (v2 : Int32) (v3 : Int32) (v4 : Int32) (v5 : Int32) (t0 : Hp), J_X6_provedShare_L29  k86 n a0 v1 v2 v3 v4 v5 t0 = some (o, τ) → jW p l e ({ frames := 3, cells := 0, slots := 0, locals := 58 } : Room) s m args below meth c g (jQ below g o τ args s 0 0) 0 0 29 [(0, .ref a0), (1, .int v1), (2, .int v2), (3, .int v3), (4, .int v4), (5, .int v5)] [] t0 := by
  intro n
  induction n with
  | zero => intro a0 v1 v2 v3 v4 v5 t0 h; cases h
  | succ n ih =>
    intro a0 v1 v2 v3 v4 v5 t0 h
    have h : J_X6_provedShare_L29b  k86 (J_X6_provedShare_L29  k86 n) a0 v1 v2 v3 v4 v5 t0 = some (o, τ) := h
    unfold J_X6_provedShare_L29b at h
    refine r_iload C 31 rfl 5 dX6_provedShare_29 rfl ?_
    refine r_iload C 33 rfl 4 dX6_provedShare_31 rfl ?_
    refine r_icmp_ge C 86 36 rfl dX6_provedShare_33 (by decide) h (fun h => ?_) (fun h => ?_)
    · refine r_lv [0, 1, 2, 3] rfl ?_
      exact hk86 a0 v1 v2 v3 t0 h
    · refine r_iload_n C 37 rfl 2 dX6_provedShare_36 rfl ?_
      refine r_aload_n C (x := some a0) 38 rfl 0 dX6_provedShare_37 rfl ?_
      refine r_getR C 41 rfl ff_X6_53 dX6_provedShare_38 h (fun r10 h => ?_)
      refine r_bipush C (v := 40) 43 rfl dX6_provedShare_41 (by decide) ?_
      refine r_iload_n C 44 rfl 3 dX6_provedShare_43 rfl ?_
      refine r_imul C 45 rfl dX6_provedShare_44 ?_
      refine r_iload C 47 rfl 5 dX6_provedShare_45 rfl ?_
      refine r_iadd C 48 rfl dX6_provedShare_47 ?_
      replace h := jdr_some h
      obtain ⟨b11, hr, h⟩ := h
      rw [hr]
      refine r_iald C 49 rfl dX6_provedShare_48 h (fun x12 h => ?_)
      refine r_iconst C (v := 1) 50 rfl dX6_provedShare_49 (by decide) ?_
      obtain ⟨j78, hj78E, h⟩ := jj_some h
      have hj78 : ∀ (x13 : Int32) (t14 : Hp), j78 x13 t14 = some (o, τ) → jW p l e ({ frames := 3, cells := 0, slots := 0, locals := 58 } : Room) s m args below meth c g (jQ below g o τ args s 0 0) 0 0 78 [(0, .ref a0), (1, .int v1), (3, .int v3), (4, .int v4), (5, .int v5)] [.int x13, .int v2] t14 := by
        subst hj78E
        intro x13 t14 h
        refine r_iadd C 79 rfl dX6_provedShare_78 ?_
        refine r_istore_n C 80 rfl [(2, .int (v2 + x13)), (0, .ref a0), (1, .int v1), (3, .int v3), (4, .int v4), (5, .int v5)] dX6_provedShare_79 (by decide) rfl ?_
        refine r_iinc C (v := v5 + 1) 83 rfl 5 [(5, .int (v5 + 1)), (2, .int (v2 + x13)), (0, .ref a0), (1, .int v1), (3, .int v3), (4, .int v4)] dX6_provedShare_80 rfl rfl (by decide) rfl ?_
        refine r_goto C 29 dX6_provedShare_83 (by decide) ?_
        refine r_lv [2, 3, 1, 4, 5, 0] rfl ?_
        exact ih a0 v1 (v2 + x13) v3 v4 (v5 + 1) t14 h
      clear hj78E
      obtain ⟨j77, hj77E, h⟩ := jj_some h
      have hj77 : ∀ (t15 : Hp), j77 t15 = some (o, τ) → jW p l e ({ frames := 3, cells := 0, slots := 0, locals := 58 } : Room) s m args below meth c g (jQ below g o τ args s 0 0) 0 0 77 [(0, .ref a0), (1, .int v1), (3, .int v3), (4, .int v4), (5, .int v5)] [.int v2] t15 := by
        subst hj77E
        intro t15 h
        refine r_iconst C (v := 0) 78 rfl dX6_provedShare_77 (by decide) ?_
        exact hj78 0 t15 h
      clear hj77E
      refine r_icmp_ne C 77 53 rfl dX6_provedShare_50 (by decide) h (fun h => ?_) (fun h => ?_)
      · refine r_lv [0, 1, 3, 4, 5] rfl ?_
        exact hj77 t0 h
      · refine r_aload_n C (x := some a0) 54 rfl 0 dX6_provedShare_53 rfl ?_
        refine r_getR C 57 rfl ff_X6_53 dX6_provedShare_54 h (fun r16 h => ?_)
        refine r_sipush C (v := 240) 60 rfl dX6_provedShare_57 (by decide) ?_
        refine r_bipush C (v := 40) 62 rfl dX6_provedShare_60 (by decide) ?_
        refine r_iload_n C 63 rfl 3 dX6_provedShare_62 rfl ?_
        refine r_imul C 64 rfl dX6_provedShare_63 ?_
        refine r_iadd C 65 rfl dX6_provedShare_64 ?_
        refine r_iload C 67 rfl 5 dX6_provedShare_65 rfl ?_
        refine r_iadd C 68 rfl dX6_provedShare_67 ?_
        replace h := jdr_some h
        obtain ⟨b17, hr, h⟩ := h
        rw [hr]
        refine r_iald C 69 rfl dX6_provedShare_68 h (fun x18 h => ?_)
        refine r_iconst C (v := 1) 70 rfl dX6_provedShare_69 (by decide) ?_
        refine r_icmp_ne C 77 73 rfl dX6_provedShare_70 (by decide) h (fun h => ?_) (fun h => ?_)
        · refine r_lv [0, 1, 3, 4, 5] rfl ?_
          exact hj77 t0 h
        · refine r_iconst C (v := 1) 74 rfl dX6_provedShare_73 (by decide) ?_
          refine r_goto C 78 dX6_provedShare_74 (by decide) ?_
          refine r_lv [0, 1, 3, 4, 5] rfl ?_
          exact hj78 1 t0 h
set_option maxHeartbeats 4000000 in
set_option maxRecDepth 100000 in
theorem w_X6_provedShare_L6 (l : Launch) (hst : l.stackTraces = false) {p : Program} {e : Env} {s : State} {m : MethodId} {args : Array Value} {below : List Frame} {meth : Method} {c : Code} {g : jG} {o : jO} {τ : Hp}  (C : jC p l s m args meth c g RX6 cX6_provedShare 6 (some FieldType.float)) (hE : ∀ x ∈ c.exceptionTable.toList, False)  : ∀ (n : Nat) (a0 : Nat) (v1 : Int32) (v2 : Int32) (v3 : Int32) (t0 : Hp), J_X6_provedShare_L6   n a0 v1 v2 v3 t0 = some (o, τ) → jW p l e ({ frames := 3, cells := 0, slots := 0, locals := 58 } : Room) s m args below meth c g (jQ below g o τ args s 0 0) 0 0 6 [(0, .ref a0), (1, .int v1), (2, .int v2), (3, .int v3)] [] t0 := by
  intro n
  induction n with
  | zero => intro a0 v1 v2 v3 t0 h; cases h
  | succ n ih =>
    intro a0 v1 v2 v3 t0 h
    have h : J_X6_provedShare_L6b   (J_X6_provedShare_L6   n) a0 v1 v2 v3 t0 = some (o, τ) := h
    unfold J_X6_provedShare_L6b at h
    refine r_iload_n C 7 rfl 3 dX6_provedShare_6 rfl ?_
    refine r_aload_n C (x := some a0) 8 rfl 0 dX6_provedShare_7 rfl ?_
    refine r_getI C 11 rfl ff_X6_162 dX6_provedShare_8 h (fun x1 h => ?_)
    refine r_icmp_ge C 92 14 rfl dX6_provedShare_11 (by decide) h (fun h => ?_) (fun h => ?_)
    · refine r_aload_n C (x := some a0) 93 rfl 0 dX6_provedShare_92 rfl ?_
      refine r_iload_n C 94 rfl 1 dX6_provedShare_93 rfl ?_
      obtain ⟨j102, hj102E, h⟩ := jj_some h
      have hj102 : ∀ (x2 : Int32) (t3 : Hp), j102 x2 t3 = some (o, τ) → jW p l e ({ frames := 3, cells := 0, slots := 0, locals := 58 } : Room) s m args below meth c g (jQ below g o τ args s 0 0) 0 0 102 [(1, .int v1), (2, .int v2)] [.int x2, .ref a0] t3 := by
        subst hj102E
        intro x2 t3 h
        refine r_callV C (ci := 6) mm_X6_84 im_yX6_goesOn se_yX6_goesOn rfl 105 0 0 rfl rfl rfl dX6_provedShare_102 rfl rfl (As := [.int x2]) rfl rfl (Nat.le_of_ble_eq_true rfl) ⟨Nat.le_of_ble_eq_true rfl, Nat.le_of_ble_eq_true rfl⟩ ⟨(Nat.le_of_ble_eq_true rfl), (Nat.le_of_ble_eq_true rfl)⟩ (fun o t h => k_X6_goesOn l hst g _ _ _ o t h) h (fun w5 t4 h => ?_) (fun E t h => r_out C (fun x hx => (hE x hx).elim) (Nat.le_refl _) (Nat.le_refl _) h)
        replace h := jvI_some h
        obtain ⟨x6, rfl, h⟩ := h
        refine r_if_eq C 116 108 rfl dX6_provedShare_105 (by decide) h (fun h => ?_) (fun h => ?_)
        · refine r_fconst0 C 117 rfl dX6_provedShare_116 ?_
          exact r_fret C dX6_provedShare_117 (Nat.le_refl _) (Nat.le_refl _) h
        · refine r_iload_n C 109 rfl 1 dX6_provedShare_108 rfl ?_
          refine r_i2f C 110 rfl dX6_provedShare_109 ?_
          refine r_iload_n C 111 rfl 0 dX6_provedShare_110 rfl ?_
          refine r_i2f C 112 rfl dX6_provedShare_111 ?_
          refine r_fdiv C 113 rfl dX6_provedShare_112 h (fun h => ?_)
          refine r_goto C 117 dX6_provedShare_113 (by decide) ?_
          exact r_fret C dX6_provedShare_117 (Nat.le_refl _) (Nat.le_refl _) h
      clear hj102E
      refine r_if_ne C 101 97 rfl dX6_provedShare_94 (by decide) h (fun h => ?_) (fun h => ?_)
      · refine r_iconst C (v := 0) 102 rfl dX6_provedShare_101 (by decide) ?_
        refine r_lv [1, 2] rfl ?_
        exact hj102 0 t0 h
      · refine r_iconst C (v := 1) 98 rfl dX6_provedShare_97 (by decide) ?_
        refine r_goto C 102 dX6_provedShare_98 (by decide) ?_
        refine r_lv [1, 2] rfl ?_
        exact hj102 1 t0 h
    · refine r_aload_n C (x := some a0) 15 rfl 0 dX6_provedShare_14 rfl ?_
      refine r_iload_n C 16 rfl 3 dX6_provedShare_15 rfl ?_
      refine r_callV C (ci := 6) mm_X6_165 im_yX6_wordsOf se_yX6_wordsOf rfl 19 0 0 rfl rfl rfl dX6_provedShare_16 rfl rfl (As := [.int v3]) rfl rfl (Nat.le_of_ble_eq_true rfl) ⟨Nat.le_of_ble_eq_true rfl, Nat.le_of_ble_eq_true rfl⟩ ⟨(Nat.le_of_ble_eq_true rfl), (Nat.le_of_ble_eq_true rfl)⟩ (fun o t h => k_X6_wordsOf l hst g _ _ _ o t h) h (fun w8 t7 h => ?_) (fun E t h => r_out C (fun x hx => (hE x hx).elim) (Nat.le_refl _) (Nat.le_refl _) h)
      replace h := jvI_some h
      obtain ⟨x9, rfl, h⟩ := h
      refine r_istore C 21 rfl [(4, .int x9), (0, .ref a0), (1, .int v1), (2, .int v2), (3, .int v3)] dX6_provedShare_19 (by decide) rfl ?_
      refine r_iload_n C 22 rfl 2 dX6_provedShare_21 rfl ?_
      refine r_iload C 24 rfl 0 dX6_provedShare_22 rfl ?_
      refine r_iadd C 25 rfl dX6_provedShare_24 ?_
      refine r_istore_n C 26 rfl [(1, .int (v1 + x9)), (4, .int x9), (0, .ref a0), (2, .int v2), (3, .int v3)] dX6_provedShare_25 (by decide) rfl ?_
      refine r_iconst C (v := 0) 27 rfl dX6_provedShare_26 (by decide) ?_
      refine r_istore C 29 rfl [(5, .int 0), (1, .int (v1 + x9)), (4, .int x9), (0, .ref a0), (2, .int v2), (3, .int v3)] dX6_provedShare_27 (by decide) rfl ?_
      refine r_lv [3, 1, 4, 5, 2, 0] rfl ?_
      refine w_X6_provedShare_L29 l hst  C hE _ (fun x19 x20 x21 x22 t23 h => ?_) jN a0 (v1 + x9) v2 v3 x9 0 t7 h
      refine r_iinc C (v := x22 + 1) 89 rfl 3 [(3, .int (x22 + 1)), (0, .ref x19), (1, .int x20), (2, .int x21)] dX6_provedShare_86 rfl rfl (by decide) rfl ?_
      refine r_goto C 6 dX6_provedShare_89 (by decide) ?_
      refine r_lv [1, 2, 3, 0] rfl ?_
      exact ih x19 x20 x21 (x22 + 1) t23 h
set_option maxHeartbeats 4000000 in
set_option maxRecDepth 100000 in
theorem k_X6_provedShare (l : Launch) (hst : l.stackTraces = false) (g : jG)   (a0 : Nat) (σ : Hp) (o : jO) (τ : Hp) (h : J_X6_provedShare a0 σ = some (o, τ)) : jMet l g yX6_provedShare (Cond.code yX6_provedShare cX6_provedShare 6 (some FieldType.float) :: gT) ({ frames := 3, cells := 0, slots := 0, locals := 58 } : Room) 0 0 [.ref a0] σ o τ := by
  refine j_start l hst (own := RX6) (by decide) rfl (Nat.le_of_ble_eq_true rfl) ?_
  intro p e s m args below meth c C hE hin
  unfold J_X6_provedShare at h
  show jW p l e ({ frames := 3, cells := 0, slots := 0, locals := 58 } : Room) s m args below meth c g (jQ below g o τ args s 0 0) 0 0 0 [(0, .ref a0)] [] σ
  refine r_iconst C (v := 0) 1 rfl dX6_provedShare_0 (by decide) ?_
  refine r_istore_n C 2 rfl [(1, .int 0), (0, .ref a0)] dX6_provedShare_1 (by decide) rfl ?_
  refine r_iconst C (v := 0) 3 rfl dX6_provedShare_2 (by decide) ?_
  refine r_istore_n C 4 rfl [(2, .int 0), (1, .int 0), (0, .ref a0)] dX6_provedShare_3 (by decide) rfl ?_
  refine r_iconst C (v := 0) 5 rfl dX6_provedShare_4 (by decide) ?_
  refine r_istore_n C 6 rfl [(3, .int 0), (2, .int 0), (1, .int 0), (0, .ref a0)] dX6_provedShare_5 (by decide) rfl ?_
  refine r_lv [3, 2, 1, 0] rfl ?_
  refine w_X6_provedShare_L6 l hst  C hE  jN a0 0 0 0 σ h

def J_X6_meanStrikes_L9b   (rc : Nat → Int32 → Int32 → Hp → jR) (a0 : Nat) (v1 : Int32) (v2 : Int32) (t0 : Hp) : jR := (if 6 ≤ v2 then jn64 (FP.ddiv (FP.i2d v1) 4618441417868443648) (some (.inl (some (.double (FP.ddiv (FP.i2d v1) 4618441417868443648))), t0)) else jgR t0 a0 6 21 (fun r2 => jdr r2 (fun b3 => jaI t0 b3 v2 (fun x4 => rc a0 (v1 + x4) (v2 + 1) t0))))
def J_X6_meanStrikes_L9   : Nat → Nat → Int32 → Int32 → Hp → jR
  | 0 => fun _ _ _ _ => none
  | n + 1 => J_X6_meanStrikes_L9b   (J_X6_meanStrikes_L9   n)
def J_X6_meanStrikes  (a0 : Nat) (σ : Hp) : jR := jpI σ a0 6 0 0 (fun t1 => J_X6_meanStrikes_L9   jN a0 0 0 t1)
set_option maxHeartbeats 4000000 in
set_option maxRecDepth 100000 in
theorem w_X6_meanStrikes_L9 (l : Launch) (hst : l.stackTraces = false) {p : Program} {e : Env} {s : State} {m : MethodId} {args : Array Value} {below : List Frame} {meth : Method} {c : Code} {g : jG} {o : jO} {τ : Hp}  (C : jC p l s m args meth c g RX6 cX6_meanStrikes 3 (some FieldType.double)) (hE : ∀ x ∈ c.exceptionTable.toList, False)  : ∀ (n : Nat) (a0 : Nat) (v1 : Int32) (v2 : Int32) (t0 : Hp), J_X6_meanStrikes_L9   n a0 v1 v2 t0 = some (o, τ) → jW p l e ({ frames := 1, cells := 0, slots := 0, locals := 12 } : Room) s m args below meth c g (jQ below g o τ args s 0 0) 0 0 9 [(0, .ref a0), (1, .int v1), (2, .int v2)] [] t0 := by
  intro n
  induction n with
  | zero => intro a0 v1 v2 t0 h; cases h
  | succ n ih =>
    intro a0 v1 v2 t0 h
    have h : J_X6_meanStrikes_L9b   (J_X6_meanStrikes_L9   n) a0 v1 v2 t0 = some (o, τ) := h
    unfold J_X6_meanStrikes_L9b at h
    refine r_iload_n C 10 rfl 2 dX6_meanStrikes_9 rfl ?_
    refine r_bipush C (v := 6) 12 rfl dX6_meanStrikes_10 (by decide) ?_
    refine r_icmp_ge C 30 15 rfl dX6_meanStrikes_12 (by decide) h (fun h => ?_) (fun h => ?_)
    · refine r_iload_n C 31 rfl 1 dX6_meanStrikes_30 rfl ?_
      refine r_i2d C 32 rfl dX6_meanStrikes_31 ?_
      refine r_ldc2d C 35 rfl dX6_meanStrikes_32 kd_X6_201 ?_
      refine r_ddiv C 36 rfl dX6_meanStrikes_35 h (fun h => ?_)
      exact r_dret C dX6_meanStrikes_36 (Nat.le_refl _) (Nat.le_refl _) h
    · refine r_iload_n C 16 rfl 1 dX6_meanStrikes_15 rfl ?_
      refine r_aload_n C (x := some a0) 17 rfl 0 dX6_meanStrikes_16 rfl ?_
      refine r_getR C 20 rfl ff_X6_59 dX6_meanStrikes_17 h (fun r2 h => ?_)
      refine r_iload_n C 21 rfl 2 dX6_meanStrikes_20 rfl ?_
      replace h := jdr_some h
      obtain ⟨b3, hr, h⟩ := h
      rw [hr]
      refine r_iald C 22 rfl dX6_meanStrikes_21 h (fun x4 h => ?_)
      refine r_iadd C 23 rfl dX6_meanStrikes_22 ?_
      refine r_istore_n C 24 rfl [(1, .int (v1 + x4)), (0, .ref a0), (2, .int v2)] dX6_meanStrikes_23 (by decide) rfl ?_
      refine r_iinc C (v := v2 + 1) 27 rfl 2 [(2, .int (v2 + 1)), (1, .int (v1 + x4)), (0, .ref a0)] dX6_meanStrikes_24 rfl rfl (by decide) rfl ?_
      refine r_goto C 9 dX6_meanStrikes_27 (by decide) ?_
      refine r_lv [2, 1, 0] rfl ?_
      exact ih a0 (v1 + x4) (v2 + 1) t0 h
set_option maxHeartbeats 4000000 in
set_option maxRecDepth 100000 in
theorem k_X6_meanStrikes (l : Launch) (hst : l.stackTraces = false) (g : jG)   (a0 : Nat) (σ : Hp) (o : jO) (τ : Hp) (h : J_X6_meanStrikes a0 σ = some (o, τ)) : jMet l g yX6_meanStrikes (Cond.code yX6_meanStrikes cX6_meanStrikes 3 (some FieldType.double) :: gT) ({ frames := 1, cells := 0, slots := 0, locals := 12 } : Room) 0 0 [.ref a0] σ o τ := by
  refine j_start l hst (own := RX6) (by decide) rfl (Nat.le_of_ble_eq_true rfl) ?_
  intro p e s m args below meth c C hE hin
  unfold J_X6_meanStrikes at h
  show jW p l e ({ frames := 1, cells := 0, slots := 0, locals := 12 } : Room) s m args below meth c g (jQ below g o τ args s 0 0) 0 0 0 [(0, .ref a0)] [] σ
  refine r_aload_n C (x := some a0) 1 rfl 0 dX6_meanStrikes_0 rfl ?_
  refine r_iconst C (v := 0) 2 rfl dX6_meanStrikes_1 (by decide) ?_
  refine r_putI C 5 rfl fp_X6_74 dX6_meanStrikes_2 h (fun t1 h => ?_)
  refine r_iconst C (v := 0) 6 rfl dX6_meanStrikes_5 (by decide) ?_
  refine r_istore_n C 7 rfl [(1, .int 0), (0, .ref a0)] dX6_meanStrikes_6 (by decide) rfl ?_
  refine r_iconst C (v := 0) 8 rfl dX6_meanStrikes_7 (by decide) ?_
  refine r_istore_n C 9 rfl [(2, .int 0), (1, .int 0), (0, .ref a0)] dX6_meanStrikes_8 (by decide) rfl ?_
  refine r_lv [2, 1, 0] rfl ?_
  refine w_X6_meanStrikes_L9 l hst  C hE  jN a0 0 0 t1 h

def J_X6_isSound  (a0 : Nat) (σ : Hp) : jR := jpI σ a0 6 0 0 (fun t1 => jrt .boolean 1 t1)
set_option maxHeartbeats 4000000 in
set_option maxRecDepth 100000 in
theorem k_X6_isSound (l : Launch) (hst : l.stackTraces = false) (g : jG)   (a0 : Nat) (σ : Hp) (o : jO) (τ : Hp) (h : J_X6_isSound a0 σ = some (o, τ)) : jMet l g yX6_isSound (Cond.code yX6_isSound cX6_isSound 1 (some FieldType.boolean) :: gT) ({ frames := 1, cells := 0, slots := 0, locals := 12 } : Room) 0 0 [.ref a0] σ o τ := by
  refine j_start l hst (own := RX6) (by decide) rfl (Nat.le_of_ble_eq_true rfl) ?_
  intro p e s m args below meth c C hE hin
  unfold J_X6_isSound at h
  show jW p l e ({ frames := 1, cells := 0, slots := 0, locals := 12 } : Room) s m args below meth c g (jQ below g o τ args s 0 0) 0 0 0 [(0, .ref a0)] [] σ
  refine r_aload_n C (x := some a0) 1 rfl 0 dX6_isSound_0 rfl ?_
  refine r_iconst C (v := 0) 2 rfl dX6_isSound_1 (by decide) ?_
  refine r_putI C 5 rfl fp_X6_74 dX6_isSound_2 h (fun t1 h => ?_)
  refine r_iconst C (v := 1) 6 rfl dX6_isSound_5 (by decide) ?_
  exact r_zret C (fun _ => rfl) dX6_isSound_6 (Nat.le_refl _) (Nat.le_refl _) h
