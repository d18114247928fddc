noncomputable def J_L_acts (g : jG)  (a0 : Nat) (v1 : Int32) (v2 : Int32) (a3 : Nat) (σ : Hp) : jR := jcs (J_L_low g (v1 >>> (((4 : Int32)) &&& 31)) (if ((1 : Int32)) < v2 then v2 else ((1 : Int32))) σ) (fun w2 t1 => jvI w2 (fun x3 => jcs (J_L_low g v1 ((14 : Int32)) t1) (fun w5 t4 => jvI w5 (fun x6 => (if x6 = 5 then jcs (J_L_low g (v1 >>> (((4 : Int32)) &&& 31)) ((33 : Int32)) t4) (fun w8 t7 => jvI w8 (fun x9 => jcv t7 a0 5 (J_X5_setWidth a0 (((8 : Int32)) + x9) t7) (fun w11 t10 => jvI w11 (fun x12 => (if x12 < ((8 : Int32)) then jrt .boolean ((0 : Int32)) t10 else jrt .boolean ((1 : Int32)) t10))) (fun E t => some (.inr E, t)))) (fun E t => some (.inr E, t)) else none))) (fun E t => some (.inr E, t)))) (fun E t => some (.inr E, t))
set_option maxHeartbeats 4000000 in
set_option maxRecDepth 100000 in
theorem k_L_acts (l : Launch) (hst : l.stackTraces = false) (g : jG)   (a0 : Nat) (v1 : Int32) (v2 : Int32) (a3 : Nat) (σ : Hp) (o : jO) (τ : Hp) (h : J_L_acts g a0 v1 v2 a3 σ = some (o, τ)) : jMet l g yL_acts (Cond.code yL_acts cL_acts 9 (some FieldType.boolean) :: gT) ({ frames := 8, cells := 1, slots := 6, locals := 166 } : Room) 1 6 [.ref a0, .int v1, .int v2, .ref a3] σ o τ := by
  refine j_start l hst (own := RL) (by decide) rfl (Nat.le_of_ble_eq_true rfl) ?_
  intro p e s m args below meth c C hE hin
  unfold J_L_acts at h
  show jW p l e ({ frames := 8, cells := 1, slots := 6, locals := 166 } : Room) s m args below meth c g (jQ below g o τ args s 1 6) 0 0 0 [(0, .ref a0), (1, .int v1), (2, .int v2), (3, .ref a3)] [] σ
  refine r_iload_n C 1 rfl 1 dL_acts_0 rfl ?_
  refine r_iconst C (v := (4 : Int32)) 2 rfl dL_acts_1 (by decide) ?_
  refine r_ishr C 3 rfl dL_acts_2 ?_
  refine r_iconst C (v := (1 : Int32)) 4 rfl dL_acts_3 (by decide) ?_
  refine r_iload_n C 5 rfl 2 dL_acts_4 rfl ?_
  refine r_mmax C 8 rfl ml_L_110 st_mmax ini_m cd_mmax dL_acts_5 (Nat.le_of_ble_eq_true rfl) (Nat.le_of_ble_eq_true rfl) (Nat.le_of_ble_eq_true rfl) (Nat.le_of_ble_eq_true rfl) ?_
  refine r_callS C mm_L_15 st_yL_low 11 0 0 rfl rfl rfl dL_acts_8 rfl rfl (As := [.int (v1 >>> (((4 : Int32)) &&& 31)), .int (if ((1 : Int32)) < v2 then v2 else ((1 : Int32)))]) rfl rfl (Nat.le_of_ble_eq_true rfl) ⟨Nat.le_of_ble_eq_true rfl, Nat.le_of_ble_eq_true rfl⟩ ⟨(Nat.le_of_ble_eq_true rfl), (Nat.le_of_ble_eq_true rfl)⟩ (fun o t h => k_L_low l hst g _ _ _ o t h) h (fun w2 t1 h => ?_) (fun E t h => r_out C (fun x hx => (hE x hx).elim) (Nat.le_of_ble_eq_true rfl) (Nat.le_of_ble_eq_true rfl) h)
  replace h := jvI_some h
  obtain ⟨x3, rfl, h⟩ := h
  refine r_istore C 13 rfl [(4, .int x3), (0, .ref a0), (1, .int v1), (2, .int v2), (3, .ref a3)] dL_acts_11 (by decide) rfl ?_
  refine r_iload_n C 14 rfl 2 dL_acts_13 rfl ?_
  refine r_bipush C (v := (14 : Int32)) 16 rfl dL_acts_14 (by decide) ?_
  refine r_callS C mm_L_15 st_yL_low 19 0 0 rfl rfl rfl dL_acts_16 rfl rfl (As := [.int v1, .int ((14 : Int32))]) rfl rfl (Nat.le_of_ble_eq_true rfl) ⟨Nat.le_of_ble_eq_true rfl, Nat.le_of_ble_eq_true rfl⟩ ⟨(Nat.le_of_ble_eq_true rfl), (Nat.le_of_ble_eq_true rfl)⟩ (fun o t h => k_L_low l hst g _ _ _ o t h) h (fun w5 t4 h => ?_) (fun E t h => r_out C (fun x hx => (hE x hx).elim) (Nat.le_of_ble_eq_true rfl) (Nat.le_of_ble_eq_true rfl) h)
  replace h := jvI_some h
  obtain ⟨x6, rfl, h⟩ := h
  refine r_tsw C 5 (off := 184) 203 dL_acts_19 (by decide) (by decide) (by decide) (by decide) h (fun h => ?_)
  refine r_aload_n C (x := some a0) 204 rfl 1 dL_acts_203 rfl ?_
  refine r_bipush C (v := (8 : Int32)) 206 rfl dL_acts_204 (by decide) ?_
  refine r_iload_n C 207 rfl 2 dL_acts_206 rfl ?_
  refine r_iconst C (v := (4 : Int32)) 208 rfl dL_acts_207 (by decide) ?_
  refine r_ishr C 209 rfl dL_acts_208 ?_
  refine r_bipush C (v := (33 : Int32)) 211 rfl dL_acts_209 (by decide) ?_
  refine r_callS C mm_L_15 st_yL_low 214 0 0 rfl rfl rfl dL_acts_211 rfl rfl (As := [.int (v1 >>> (((4 : Int32)) &&& 31)), .int ((33 : Int32))]) rfl rfl (Nat.le_of_ble_eq_true rfl) ⟨Nat.le_of_ble_eq_true rfl, Nat.le_of_ble_eq_true rfl⟩ ⟨(Nat.le_of_ble_eq_true rfl), (Nat.le_of_ble_eq_true rfl)⟩ (fun o t h => k_L_low l hst g _ _ _ o t h) h (fun w8 t7 h => ?_) (fun E t h => r_out C (fun x hx => (hE x hx).elim) (Nat.le_of_ble_eq_true rfl) (Nat.le_of_ble_eq_true rfl) h)
  replace h := jvI_some h
  obtain ⟨x9, rfl, h⟩ := h
  refine r_iadd C 215 rfl dL_acts_214 ?_
  refine r_callV C (ci := 5) mm_L_129 im_yX5_setWidth se_yX5_setWidth rfl 218 1 6 rfl rfl rfl dL_acts_215 rfl rfl (As := [.int (((8 : Int32)) + x9)]) rfl rfl (Nat.le_of_ble_eq_true rfl) ⟨Nat.le_of_ble_eq_true rfl, Nat.le_of_ble_eq_true rfl⟩ ⟨(Nat.le_of_ble_eq_true rfl), (Nat.le_of_ble_eq_true rfl)⟩ (fun o t h => k_X5_setWidth l hst g _ _ _ o t h) h (fun w11 t10 h => ?_) (fun E t h => r_out C (fun x hx => (hE x hx).elim) (Nat.le_refl _) (Nat.le_refl _) h)
  replace h := jvI_some h
  obtain ⟨x12, rfl, h⟩ := h
  refine r_bipush C (v := (8 : Int32)) 220 rfl dL_acts_218 (by decide) ?_
  refine r_icmp_lt C 227 223 rfl dL_acts_220 (by decide) h (fun h => ?_) (fun h => ?_)
  · refine r_iconst C (v := (0 : Int32)) 228 rfl dL_acts_227 (by decide) ?_
    exact r_zret C (fun _ => rfl) dL_acts_228 (Nat.le_refl _) (Nat.le_refl _) h
  · refine r_iconst C (v := (1 : Int32)) 224 rfl dL_acts_223 (by decide) ?_
    refine r_goto C 228 dL_acts_224 (by decide) ?_
    exact r_zret C (fun _ => rfl) dL_acts_228 (Nat.le_refl _) (Nat.le_refl _) h
