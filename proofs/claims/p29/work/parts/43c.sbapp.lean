/-! Appending. -/
theorem getD_app (l m : List Nat) (i : Nat) : (l ++ m).getD i 0 = if i < l.length then l.getD i 0 else m.getD (i - l.length) 0 := by
  rw [List.getD_eq_getElem?_getD, List.getD_eq_getElem?_getD, List.getD_eq_getElem?_getD, List.getElem?_append]
  by_cases h : i < l.length
  · rw [if_pos h, if_pos h]
  · rw [if_neg h, if_neg h]
/-- a String is appended -/
theorem s_appS {σ : Hp} (hz : kz σ) {lo b v cap : Nat} {l m : List Nat} (h : SbW σ lo b v cap l) {l1 h1 s : Nat} (hs : StrV σ l1 h1 s m) (hb : b < l1 ∨ h1 ≤ b) (hv : v < l1 ∨ h1 ≤ v) (hm : l.length + m.length ≤ 400) : ∃ τ v' cap', J_J4_append_15ec4 b s σ = some (.inl (some (.ref b)), τ) ∧ SbW τ lo b v' cap' (l ++ m) ∧ (v' = v ∨ v' = tpH σ) ∧ gw (fun _ => False) lo σ τ ∧ kz τ ∧ (cap < l.length + m.length → tpH σ + 1 ≤ tpH τ) ∧ (l.length + m.length ≤ cap → cap' = cap) := by
  have hsl := s_len hs
  obtain ⟨τ1, v', cap', e1, w1, m1, v1, g1, z1, t1, c1, o1⟩ := s_ensure hz h hm (by omega)
  have hk0 := h.1
  have hvt : v < tpH σ := h.2.2.2.2.2.2.2.2.1
  have hil : inH σ b 3 = nI l.length := h.2.2.1
  have hst : h1 ≤ tpH σ := hs.2.2.2.2.1
  have hs1 : StrV τ1 l1 h1 s m := by
    obtain ⟨k0, k1, k2, k3, k4, k5, w, k6, k7, k8, k9, k10, k11, k12⟩ := hs
    obtain ⟨a1, a2, a3⟩ := o1 s (by omega) (by omega)
    obtain ⟨b1, b2, b3⟩ := o1 w (by omega) (by omega)
    refine ⟨by rw [a1]; exact k0, by rw [a2]; exact k1, k2, k3, Nat.le_trans k4 g1.1, k5, w, by rw [a3]; exact k6, k7, k8, ?_, by rw [b1]; exact k10, fun i => by rw [b2]; exact k11 i, fun i hi => by rw [b2]; exact k12 i hi⟩
    unfold jByt
    rw [b1]
    exact k9
  have hcd := s_coder hs1
  obtain ⟨k0, k1, k2, k3, k4, k5, w, k6, k7, k8, k9, k10, k11, k12⟩ := hs1
  obtain ⟨x0, x1, x2, x3, x4, x5, x6, x7, x8, x9, x10, x11, x12, x13, x14⟩ := w1
  have hwv : w ≠ v' := by omega
  have e2 : J_J5_inflateIfNeededFor_a7421 b s τ1 = some (.inl none, τ1) := by
    unfold J_J5_inflateIfNeededFor_a7421
    rw [if_neg (by decide), jgI_ok x0, x1, jcvS_ok k0 hcd, jvI_ok, if_pos rfl]
  have e3 : J_J0_getBytes_840e7 s v' (nI l.length) 0 τ1 = some (.inl none, cpB τ1 w v' 0 l.length m.length) := by
    unfold J_J0_getBytes_840e7
    rw [jcvS_ok k0 hcd, jvI_ok, if_pos rfl, jgRs_ok k0, jgRs_ok k0, k6, jdr_ok, jalB_ok k9 k10, jdr_ok, shl0, show (0 : Int32) = nI 0 by decide, jcpB_ok k9 k10 x4 k11 (by omega) (by omega) (by omega) (by omega)]
  have e4 : J_J5_putStringAt_47b60 b (nI l.length) s τ1 = some (.inl none, cpB τ1 w v' 0 l.length m.length) := by
    unfold J_J5_putStringAt_47b60
    rw [jcv_ok x0 e2, jvV_ok, jgR_ok x0, jgI_ok x0, x3, jdr_ok, x1, jcvS_ok k0 e3, jvV_ok]
  have hbv : b ≠ v' := fun e => by rw [e, x4] at x0; cases x0
  have kb : kdH (cpB τ1 w v' 0 l.length m.length) b = (1, 6) := x0
  have ib : inH (cpB τ1 w v' 0 l.length m.length) b = inH τ1 b := by rw [in_cpB, if_neg hbv]
  have iv : inH (cpB τ1 w v' 0 l.length m.length) v' = va_cpy (inH τ1 w) (inH τ1 v') 0 l.length m.length := by rw [in_cpB, if_pos rfl]
  have e5 : J_J5_append_cf1ce b s σ = some (.inl (some (.ref b)), inS (cpB τ1 w v' 0 l.length m.length) b 3 (nI (l.length + m.length))) := by
    unfold J_J5_append_cf1ce
    rw [jcvS_ok hs.1 hsl, jvI_ok, jgI_ok hk0, hil, nI_add, jcv_ok hk0 e1, jvV_ok, jgI_ok x0, x2, jcv_ok x0 e4, jvV_ok, jgI_ok kb, ib, x2, nI_add, jpI_ok kb]
  have e6 : J_J4_append_15ec4 b s σ = some (.inl (some (.ref b)), inS (cpB τ1 w v' 0 l.length m.length) b 3 (nI (l.length + m.length))) := by
    unfold J_J4_append_15ec4
    rw [jcv_ok hk0 e5, jvA_ok]
  refine ⟨_, v', cap', e6, ⟨kb, ?_, ?_, x3, x4, x5, x6, x7, x8, by rw [List.length_append]; exact m1, x10, x11, fun i => ?_, fun c hc => ?_, fun i hi => ?_⟩, v1, g1.tr ((gw_cpB τ1 0 _ _ x6).tr (gw_in' _ 3 _ x5)), (show kz (cpB τ1 w v' 0 l.length m.length) from z1).inS' _ _ _, fun q => t1 q, c1⟩
  · rw [in_inS, if_neg (by omega), ib]
    exact x1
  · rw [in_inS, if_pos ⟨rfl, rfl⟩, List.length_append]
  · rw [in_inS, if_neg (fun z => hbv z.1.symm), iv]
    by_cases q : l.length ≤ i ∧ i < l.length + m.length
    · rw [pk_cpy_in q.1 q.2]
      exact k11 _
    · rw [pk_cpy_out (by omega)]
      exact x12 i
  · rcases List.mem_append.mp hc with q | q
    · exact x13 c q
    · exact k5 c q
  · rw [List.length_append] at hi
    rw [in_inS, if_neg (fun z => hbv z.1.symm), iv, getD_app]
    by_cases q : i < l.length
    · rw [pk_cpy_out (by omega), if_pos q]
      exact x14 i q
    · rw [pk_cpy_in (by omega) (by omega), if_neg q, show 0 + (i - l.length) = i - l.length by omega]
      exact k12 _ (by omega)
theorem jcpB_00 {σ : Hp} {a b z na nb : Nat} {K : Hp → jR} (ha : jByt σ a) (hna : (kdH σ a).2 = na) (hb : kdH σ b = (6, nb)) (hf : jFit σ a) (h1 : z ≤ na) (h2 : z ≤ nb) (h3 : na < 100000) (h4 : nb < 100000) : jcpB σ a b 0 0 (nI z) K = K (cpB σ a b 0 0 z) := jcpB_ok (sp := 0) (dp := 0) ha hna hb hf (by omega) (by omega) h3 h4
/-- a char is appended -/
theorem s_appC {σ : Hp} (hz : kz σ) {lo b v cap : Nat} {l : List Nat} (h : SbW σ lo b v cap l) {c : Nat} (hc : c < 128) (hm : l.length + 1 ≤ 400) : ∃ τ v' cap', J_J4_append_cf468 b (nI c) σ = some (.inl (some (.ref b)), τ) ∧ SbW τ lo b v' cap' (l ++ [c]) ∧ (v' = v ∨ v' = tpH σ) ∧ gw (fun _ => False) lo σ τ ∧ kz τ ∧ (cap < l.length + 1 → tpH σ + 1 ≤ tpH τ) ∧ (l.length + 1 ≤ cap → cap' = cap) := by
  obtain ⟨τ1, v', cap', e1, w1, m1, v1, g1, z1, t1, c1, o1⟩ := s_ensure hz h hm (by omega)
  have hk0 := h.1
  have hil : inH σ b 3 = nI l.length := h.2.2.1
  obtain ⟨b1, b2, b3, b4, b5, b6⟩ := by_all c hc
  obtain ⟨x0, x1, x2, x3, x4, x5, x6, x7, x8, x9, x10, x11, x12, x13, x14⟩ := w1
  have hbv : b ≠ v' := fun e => by rw [e, x4] at x0; cases x0
  have e2 : J_J5_isLatin1_aae02 b τ1 = some (.inl (some (.int 1)), τ1) := by
    unfold J_J5_isLatin1_aae02
    rw [if_neg (by decide), jgI_ok x0, x1, if_pos rfl, jrt_1]
  have e3 : J_J1_canEncode_fc78d (nI c) τ1 = some (.inl (some (.int 1)), τ1) := by
    unfold J_J1_canEncode_fc78d
    rw [if_neg b6, jrt_1]
  have e5 : J_J5_append_3fe6f b (nI c) σ = some (.inl (some (.ref b)), inS (inS τ1 b 3 (nI (l.length + 1))) v' l.length (nI c)) := by
    unfold J_J5_append_3fe6f
    rw [jgI_ok hk0, hil, nI_1, jcv_ok hk0 e1, jvV_ok, jcv_ok x0 e2, jvI_ok, if_neg (by decide), jcs_ok e3, jvI_ok, if_neg (by decide), jgR_ok x0, jgI_ok x0, jpI_ok x0, x3, jdr_ok, x2, nI_1, jsB_ok (n := cap') (show kdH (inS τ1 b 3 (nI (l.length + 1))) v' = (6, cap') from x4) (by omega) (by omega), b1]
  have e6 : J_J4_append_cf468 b (nI c) σ = some (.inl (some (.ref b)), inS (inS τ1 b 3 (nI (l.length + 1))) v' l.length (nI c)) := by
    unfold J_J4_append_cf468
    rw [jcv_ok hk0 e5, jvA_ok]
  refine ⟨_, v', cap', e6, ⟨x0, ?_, ?_, x3, x4, x5, x6, x7, x8, by rw [List.length_append]; exact m1, x10, x11, fun i => ?_, fun q hq => ?_, fun i hi => ?_⟩, v1, g1.tr ((gw_in' _ 3 _ x5).tr (gw_in' _ _ _ x6)), (z1.inS' _ _ _).inS' _ _ _, fun q => t1 q, c1⟩
  · rw [in_inS, if_neg (fun z => hbv z.1), in_inS, if_neg (by omega)]
    exact x1
  · rw [in_inS, if_neg (fun z => hbv z.1), in_inS, if_pos ⟨rfl, rfl⟩, List.length_append]
    rfl
  · rw [in_inS]
    by_cases q : v' = v' ∧ i = l.length
    · rw [if_pos q]
      exact b2
    · rw [if_neg q, in_inS, if_neg (fun z => hbv z.1.symm)]
      exact x12 i
  · rcases List.mem_append.mp hq with r | r
    · exact x13 q r
    · rw [List.mem_singleton.mp r]
      exact hc
  · rw [List.length_append] at hi
    have hi : i < l.length + 1 := hi
    rw [in_inS, getD_app]
    by_cases q : i < l.length
    · rw [if_neg (by omega), in_inS, if_neg (fun z => hbv z.1.symm), if_pos q]
      exact x14 i q
    · rw [if_pos ⟨rfl, by omega⟩, if_neg q, show i - l.length = 0 by omega]
      rfl
/-- a String is made of it -/
theorem s_toS {σ : Hp} (hz : kz σ) {lo b v cap : Nat} {l : List Nat} (h : SbW σ lo b v cap l) (hm : l.length ≤ 400) : ∃ τ, J_J4_toString_0e30d b σ = some (.inl (some (.ref (tpH σ))), τ) ∧ StrV τ (tpH σ) (tpH τ) (tpH σ) l ∧ gw (fun _ => False) (tpH σ) σ τ ∧ tpH τ = tpH σ + 2 ∧ kz τ ∧ kdH τ (tpH σ) = (1, 7) := by
  obtain ⟨x0, x1, x2, x3, x4, x5, x6, x7, x8, x9, x10, x11, x12, x13, x14⟩ := h
  have hbt : b ≠ tpH σ := by omega
  have hvt : v ≠ tpH σ := by omega
  have y0 : kdH (nwS σ (1, 7)) b = (1, 6) := by rw [kd_nwS, if_neg hbt]; exact x0
  have y4 : kdH (nwS σ (1, 7)) v = (6, cap) := by rw [kd_nwS, if_neg hvt]; exact x4
  have y7 : kdH (nwS σ (1, 7)) (tpH σ) = (1, 7) := by rw [kd_nwS, if_pos rfl]
  have y1 : inH (nwS σ (1, 7)) b = inH σ b := by rw [in_nwS, if_neg hbt]
  have yv : inH (nwS σ (1, 7)) v = inH σ v := by rw [in_nwS, if_neg hvt]
  have y3 : rfH (nwS σ (1, 7)) b = rfH σ b := by rw [rf_nwS, if_neg hbt]
  have e1 : J_J5_getValue_6d5f1 b (nwS σ (1, 7)) = some (.inl (some (.ref v)), nwS σ (1, 7)) := by
    unfold J_J5_getValue_6d5f1
    rw [jgR_ok y0, y3, x3, jdr_ok]
  have e2 : J_J4_length_8abf5 b (nwS σ (1, 7)) = some (.inl (some (.int (nI l.length))), nwS σ (1, 7)) := by
    have : J_J5_length_8abf5 b (nwS σ (1, 7)) = some (.inl (some (.int (nI l.length))), nwS σ (1, 7)) := by
      unfold J_J5_length_8abf5
      rw [jgI_ok y0, y1, x2]
    unfold J_J4_length_8abf5
    rw [jcv_ok y0 this, jvI_ok]
  have e3 : J_J5_isLatin1_aae02 b (nwS σ (1, 7)) = some (.inl (some (.int 1)), nwS σ (1, 7)) := by
    unfold J_J5_isLatin1_aae02
    rw [if_neg (by decide), jgI_ok y0, y1, x1, if_pos rfl, jrt_1]
  have e4 : ∃ τ, J_J7_copyOfRange_39247 v 0 (nI l.length) (inS (nwS σ (1, 7)) (tpH σ) 1 0) = some (.inl (some (.ref (tpH σ + 1))), τ) ∧ (∀ q, q ≠ tpH σ + 1 → kdH τ q = kdH (nwS σ (1, 7)) q ∧ inH τ q = inH (inS (nwS σ (1, 7)) (tpH σ) 1 0) q ∧ rfH τ q = rfH (nwS σ (1, 7)) q ∧ lgH τ q = lgH (nwS σ (1, 7)) q ∧ dbH τ q = dbH (nwS σ (1, 7)) q) ∧ kdH τ (tpH σ + 1) = (6, l.length) ∧ jFit τ (tpH σ + 1) ∧ (∀ i, i < l.length → inH τ (tpH σ + 1) i = nI (l.getD i 0)) ∧ tpH τ = tpH σ + 2 ∧ kz τ := by
    have z4 : kdH (inS (nwS σ (1, 7)) (tpH σ) 1 0) v = (6, cap) := y4
    have zv : inH (inS (nwS σ (1, 7)) (tpH σ) 1 0) v = inH σ v := by
      funext y
      rw [in_inS, if_neg (fun z => hvt z.1), yv]
    have kB : jByt (inS (nwS σ (1, 7)) (tpH σ) 1 0) v := Or.inl (by rw [z4])
    have kF : jFit (inS (nwS σ (1, 7)) (tpH σ) 1 0) v := fun i => by rw [zv]; exact x12 i
    have hT : tpH (inS (nwS σ (1, 7)) (tpH σ) 1 0) = tpH σ + 1 := rfl
    by_cases hc : l.length = cap
    · refine ⟨clB (inS (nwS σ (1, 7)) (tpH σ) 1 0) v, ?_, fun q hq => ⟨by rw [kd_clB, if_neg (by omega)]; rfl, by rw [in_clB, if_neg (by omega)], by rw [rf_clB, if_neg (by omega)]; rfl, rfl, rfl⟩, ?_, fun i => ?_, fun i hi => ?_, rfl, kz_clB ((kz_nw hz (1, 7)).inS' _ _ _) _⟩
      · unfold J_J7_copyOfRange_39247 jj jcl jckB
        dsimp only
        rw [if_pos rfl, jalB_ok kB (by rw [z4]), hc, if_pos rfl, if_pos ⟨by rw [z4], kF, by rw [z4]; exact x11⟩, kd_clB, hT, if_pos rfl, if_pos (by rw [z4])]
      · rw [kd_clB, hT, if_pos rfl, z4, hc]
      · rw [in_clB, hT, if_pos rfl]
        exact kF i
      · rw [in_clB, hT, if_pos rfl, zv]
        exact x14 i hi
    · have hk : J_J7_checkLength_df160 0 (nI l.length) (inS (nwS σ (1, 7)) (tpH σ) 1 0) = some (.inl none, inS (nwS σ (1, 7)) (tpH σ) 1 0) := by
        unfold J_J7_checkLength_df160
        rw [if_pos (nI_pos' (by omega))]
      have w4 : kdH (nwS (inS (nwS σ (1, 7)) (tpH σ) 1 0) (6, l.length)) v = (6, cap) := by rw [kd_nwS, if_neg (by omega)]; exact z4
      have wv : inH (nwS (inS (nwS σ (1, 7)) (tpH σ) 1 0) (6, l.length)) v = inH σ v := by rw [in_nwS, if_neg (by omega), zv]
      refine ⟨cpB (nwS (inS (nwS σ (1, 7)) (tpH σ) 1 0) (6, l.length)) v (tpH σ + 1) 0 0 l.length, ?_, fun q hq => ⟨by rw [kd_cpB, kd_nwS, if_neg (by omega)]; rfl, by rw [in_cpB, if_neg hq, in_nwS, if_neg (by omega)], by rw [rf_cpB, rf_nwS, if_neg (by omega)]; rfl, ?_, ?_⟩, by rw [kd_cpB, kd_nwS, if_pos hT.symm], fun i => ?_, fun i hi => ?_, rfl, (show kz (nwS (inS (nwS σ (1, 7)) (tpH σ) 1 0) (6, l.length)) from kz_nw ((kz_nw hz (1, 7)).inS' _ _ _) _)⟩
      · have : J_J7_copyOfRangeByte_39247 v 0 (nI l.length) (inS (nwS σ (1, 7)) (tpH σ) 1 0) = some (.inl (some (.ref (tpH σ + 1))), cpB (nwS (inS (nwS σ (1, 7)) (tpH σ) 1 0) (6, l.length)) v (tpH σ + 1) 0 0 l.length) := by
          unfold J_J7_copyOfRangeByte_39247
          rw [jcs_ok hk, jvV_ok, Int32.sub_zero, jnA_ok (by omega) (by omega), jalB_ok (Or.inl (by rw [w4])) (by rw [w4]), Int32.sub_zero, if_pos (nI_lt (by omega) (by omega)), hT, jcpB_00 (na := cap) (nb := l.length) (Or.inl (by rw [w4])) (by rw [w4]) (by rw [kd_nwS, if_pos hT.symm]) (fun i => by rw [wv]; exact x12 i) (by omega) (by omega) (by omega) (by omega)]
        unfold J_J7_copyOfRange_39247 jj
        dsimp only
        rw [if_pos rfl, jalB_ok kB (by rw [z4]), if_neg (fun q => hc ((nI_eq (by omega) (by omega)).mp q)), jcs_ok this, jvA_ok]
      · show u1 _ (tpH σ + 1) _ q = _
        rw [u1_n (by omega)]
        rfl
      · show u1 _ (tpH σ + 1) _ q = _
        rw [u1_n (by omega)]
        rfl
      · rw [in_cpB, if_pos rfl]
        by_cases q : i < l.length
        · rw [pk_cpy_in (by omega) (by omega), wv]
          exact x12 _
        · rw [pk_cpy_out (by omega), in_nwS, if_pos hT.symm]
          exact fit0
      · rw [in_cpB, if_pos rfl, pk_cpy_in (by omega) (by omega), wv, show 0 + (i - 0) = i by omega]
        exact x14 i hi
  obtain ⟨τ, e4, o1, n1, n2, n3, tt, z1⟩ := e4
  have kt : kdH τ (tpH σ) = (1, 7) := by rw [(o1 (tpH σ) (by omega)).1]; exact y7
  have e5 : J_J0_init_db425 (tpH σ) b none (nwS σ (1, 7)) = some (.inl none, rfS τ (tpH σ) 0 (some (tpH σ + 1))) := by
    unfold J_J0_init_db425
    rw [jcv_ok y0 e1, jvA_ok, jcv_ok y0 e2, jvI_ok, jcv_ok y0 e3, jvI_ok, if_neg (by decide), jpI_ok y7, jcs_ok e4, jvA_ok, jpR_ok kt]
  have e6 : J_J0_init_81219 (tpH σ) b (nwS σ (1, 7)) = some (.inl none, rfS τ (tpH σ) 0 (some (tpH σ + 1))) := by
    unfold J_J0_init_81219
    rw [jcv_ok y7 e5, jvV_ok]
  refine ⟨rfS τ (tpH σ) 0 (some (tpH σ + 1)), ?_, ⟨Or.inl kt, ?_, Nat.le_refl _, by show tpH σ < tpH τ; omega, Nat.le_refl _, x13, tpH σ + 1, by rw [rf_rfS, if_pos ⟨rfl, rfl⟩], Nat.le_succ _, by show tpH σ + 1 < tpH τ; omega, Or.inl (by rw [kd_rfS, n1]), by rw [kd_rfS, n1], n2, n3⟩, ⟨by show tpH σ ≤ tpH τ; omega, fun q hq => ?_⟩, tt, z1.rfS' _ _ _, kt⟩
  · unfold J_J4_toString_0e30d jnw
    dsimp only
    rw [jcv_ok y7 e6, jvV_ok]
  · rw [in_rfS, (o1 (tpH σ) (by omega)).2.1, in_inS, if_pos ⟨rfl, rfl⟩]
  · obtain ⟨a1, a2, a3, a4, a5⟩ := o1 q (by omega)
    refine ⟨by rw [kd_rfS, a1, kd_nwS, if_neg (by omega)], fun _ => ⟨?_, ?_, ?_, ?_⟩⟩
    · rw [in_rfS, a2]
      funext y
      rw [in_inS, if_neg (by omega), in_nwS, if_neg (by omega)]
    · funext y
      rw [rf_rfS, if_neg (by omega), a3, rf_nwS, if_neg (by omega)]
    · show lgH τ q = _
      rw [a4]
      show u1 _ (tpH σ) _ q = _
      rw [u1_n (by omega)]
    · show dbH τ q = _
      rw [a5]
      show u1 _ (tpH σ) _ q = _
      rw [u1_n (by omega)]
