/-! Builders: made, grown, appended to, made a String. -/
theorem gw.lw {P : Nat → Prop} {b b' : Nat} {x y : Hp} (h : gw P b x y) (hb : b' ≤ b) : gw P b' x y := h.up hb (fun q _ z => z)
theorem gw_in' {b a : Nat} (σ : Hp) (k : Nat) (v : Int32) (h : b ≤ a) : gw (fun _ => False) b σ (inS σ a k v) := (gw_in (a := a) (b := b) σ k v).up (Nat.le_refl _) (fun q hq e => by omega)
theorem gw_rf' {b a : Nat} (σ : Hp) (k : Nat) (v : Option Nat) (h : b ≤ a) : gw (fun _ => False) b σ (rfS σ a k v) := (gw_rf (a := a) (b := b) σ k v).up (Nat.le_refl _) (fun q hq e => by omega)
theorem gw_cpB {b a d : Nat} (σ : Hp) (i j k : Nat) (h : b ≤ d) : gw (fun _ => False) b σ (cpB σ a d i j k) := ⟨Nat.le_refl _, fun q hq => ⟨rfl, fun _ => ⟨by show u1 _ d _ q = _; rw [u1_n (by omega)], rfl, rfl, rfl⟩⟩⟩
theorem gw_clB {b a : Nat} (σ : Hp) (h : b ≤ tpH σ) : gw (fun _ => False) b σ (clB σ a) := ⟨Nat.le_succ _, fun q hq => ⟨by show u1 _ (tpH σ) _ q = _; rw [u1_n (by omega)], fun _ => ⟨by show u1 _ (tpH σ) _ q = _; rw [u1_n (by omega)], by show u1 _ (tpH σ) _ q = _; rw [u1_n (by omega)], rfl, rfl⟩⟩⟩
theorem in_nwS (σ : Hp) (k : Nat × Nat) (q : Nat) : inH (nwS σ k) q = if q = tpH σ then (fun _ => 0) else inH σ q := rfl
theorem rf_nwS (σ : Hp) (k : Nat × Nat) (q : Nat) : rfH (nwS σ k) q = if q = tpH σ then (fun _ => none) else rfH σ q := rfl
theorem kd_nwS (σ : Hp) (k : Nat × Nat) (q : Nat) : kdH (nwS σ k) q = if q = tpH σ then k else kdH σ q := rfl
theorem in_cpB (σ : Hp) (a d i j k q : Nat) : inH (cpB σ a d i j k) q = if q = d then va_cpy (inH σ a) (inH σ d) i j k else inH σ q := rfl
theorem kd_cpB (σ : Hp) (a d i j k : Nat) : kdH (cpB σ a d i j k) = kdH σ := rfl
theorem rf_cpB (σ : Hp) (a d i j k : Nat) : rfH (cpB σ a d i j k) = rfH σ := rfl
theorem in_clB (σ : Hp) (a q : Nat) : inH (clB σ a) q = if q = tpH σ then inH σ a else inH σ q := rfl
theorem kd_clB (σ : Hp) (a q : Nat) : kdH (clB σ a) q = if q = tpH σ then kdH σ a else kdH σ q := rfl
theorem rf_clB (σ : Hp) (a q : Nat) : rfH (clB σ a) q = if q = tpH σ then (fun _ => none) else rfH σ q := rfl
theorem kz_clB {σ : Hp} (h : kz σ) (a : Nat) : kz (clB σ a) := fun q hq => by
  have hq' : tpH σ + 1 ≤ q := hq
  rw [kd_clB, if_neg (by omega)]
  exact h q (by omega)
theorem fit0 : fits .byte (.int (0 : Int32)) = true := by decide
/-- a builder is made -/
theorem s_sb {σ : Hp} (hz : kz σ) : ∃ τ, (∀ (K : Nat → Hp → jR) (KX : String → Hp → jR), jnw σ 6 (fun b1 t2 => jcv t2 b1 6 (J_J4_init_da8c8 b1 t2) (fun w4 t3 => jvV w4 (K b1 t3)) KX) = K (tpH σ) τ) ∧ SbW τ (tpH σ) (tpH σ) (tpH σ + 1) 16 [] ∧ gw (fun _ => False) (tpH σ) σ τ ∧ tpH τ = tpH σ + 2 ∧ kz τ := by
  have k0 : kdH (nwS σ (1, 6)) (tpH σ) = (1, 6) := by rw [kd_nwS, if_pos rfl]
  have k1 : kdH (nwS (nwS σ (1, 6)) (6, 16)) (tpH σ) = (1, 6) := by
    rw [kd_nwS, if_neg (by show tpH σ ≠ tpH σ + 1; omega)]
    exact k0
  have e0 : J_J5_init_d00df (tpH σ) 16 (nwS σ (1, 6)) = some (.inl none, inS (rfS (nwS (nwS σ (1, 6)) (6, 16)) (tpH σ) 0 (some (tpH σ + 1))) (tpH σ) 1 0) := by
    unfold J_J5_init_d00df
    rw [if_neg (by decide), show (16 : Int32) = nI 16 by decide, jnA_ok (by omega) (by omega), show tpH (nwS σ (1, 6)) = tpH σ + 1 from rfl, jpR_ok k1, jpI_ok (by rw [kd_rfS]; exact k1)]
  have e1 : J_J4_init_da8c8 (tpH σ) (nwS σ (1, 6)) = some (.inl none, inS (rfS (nwS (nwS σ (1, 6)) (6, 16)) (tpH σ) 0 (some (tpH σ + 1))) (tpH σ) 1 0) := by
    unfold J_J4_init_da8c8
    rw [jcv_ok k0 e0, jvV_ok]
  refine ⟨inS (rfS (nwS (nwS σ (1, 6)) (6, 16)) (tpH σ) 0 (some (tpH σ + 1))) (tpH σ) 1 0, fun K KX => ?_, ?_, ?_, rfl, ?_⟩
  · unfold jnw
    dsimp only
    rw [jcv_ok k0 e1, jvV_ok]
  · refine ⟨k1, ?_, ?_, ?_, ?_, Nat.le_refl _, Nat.le_succ _, by show tpH σ < tpH σ + 1 + 1; omega, by show tpH σ + 1 < tpH σ + 1 + 1; omega, Nat.zero_le _, by omega, by omega, fun i => ?_, fun c h => absurd h List.not_mem_nil, fun i hi => (Nat.not_lt_zero i hi).elim⟩
    · rw [in_inS, if_pos ⟨rfl, rfl⟩]
    · rw [in_inS, if_neg (by omega), in_rfS, in_nwS, if_neg (by show tpH σ ≠ tpH σ + 1; omega), in_nwS, if_pos rfl]
      rfl
    · rw [rf_inS, rf_rfS, if_pos ⟨rfl, rfl⟩]
    · rw [kd_inS, kd_rfS, kd_nwS, if_pos (show tpH σ + 1 = tpH (nwS σ (1, 6)) from rfl)]
    · rw [in_inS, if_neg (by omega), in_rfS, in_nwS, if_pos (show tpH σ + 1 = tpH (nwS σ (1, 6)) from rfl)]
      exact fit0
  · exact ((gw_nw σ (1, 6)).tr ((gw_nw (nwS σ (1, 6)) (6, 16)).lw (Nat.le_succ _))).tr ((gw_rf' _ 0 _ (Nat.le_refl _)).tr (gw_in' _ 1 0 (Nat.le_refl _)))
  · exact ((kz_nw (kz_nw hz (1, 6)) (6, 16)).rfS' _ _ _).inS' _ _ _
/-- room for more bytes -/
theorem s_ensure {σ : Hp} (hz : kz σ) {lo b v cap : Nat} {l : List Nat} (h : SbW σ lo b v cap l) {m : Nat} (hm : m ≤ 400) (hl : l.length ≤ m) : ∃ τ v' cap', J_J5_ensureCapacityInternal_d00df b (nI m) σ = some (.inl none, τ) ∧ SbW τ lo b v' cap' l ∧ m ≤ cap' ∧ (v' = v ∨ v' = tpH σ) ∧ gw (fun _ => False) lo σ τ ∧ kz τ ∧ (cap < m → tpH σ + 1 ≤ tpH τ) ∧ (m ≤ cap → cap' = cap) ∧ (∀ q, q < tpH σ → q ≠ b → kdH τ q = kdH σ q ∧ inH τ q = inH σ q ∧ rfH τ q = rfH σ q) := by
  have hh := h
  obtain ⟨k0, k1, k2, k3, k4, k5, k6, k7, k8, k9, k10, k11, k12, k13, k14⟩ := h
  have kB : jByt σ v := Or.inl (by rw [k4])
  by_cases hc : m ≤ cap
  · refine ⟨σ, v, cap, ?_, hh, hc, Or.inl rfl, gw.rf, hz, fun q => by omega, fun _ => rfl, fun q _ _ => ⟨rfl, rfl, rfl⟩⟩
    unfold J_J5_ensureCapacityInternal_d00df
    rw [jgR_ok k0, k3, jdr_ok, jalB_ok kB (by rw [k4]), jgI_ok k0, k1, shr0, if_pos (by
      rw [Int32.le_iff_toInt_le, pk_sub_toInt (by omega) (by omega)]
      show (m : Int) - cap ≤ 0
      omega)]
  · have hn : ∃ c2, c2 = cap + max (m - cap) (cap + 2) ∧ J_J5_newCapacity_0f7a4 b (nI m) σ = some (.inl (some (.int (nI c2))), σ) := by
      refine ⟨_, rfl, ?_⟩
      have e : J_J8_newLength_cabcc (nI cap) (nI (m - cap)) (nI (cap + 2)) σ = some (.inl (some (.int (nI (cap + max (m - cap) (cap + 2))))), σ) := by
        unfold J_J8_newLength_cabcc
        have em : (if nI (m - cap) < nI (cap + 2) then nI (cap + 2) else nI (m - cap)) = nI (max (m - cap) (cap + 2)) := by
          by_cases q : m - cap < cap + 2
          · rw [if_pos (nI_lt q (by omega)), Nat.max_eq_right (by omega)]
          · rw [if_neg (nI_nlt (by omega) (by omega)), Nat.max_eq_left (by omega)]
        rw [em, nI_add, if_neg (nI_nle (by omega) (by omega)), show (2147483639 : Int32) = nI 2147483639 by decide, if_neg (nI_nlt (by omega) (by omega))]
      unfold J_J5_newCapacity_0f7a4
      rw [jgR_ok k0, k3, jdr_ok, jalB_ok kB (by rw [k4]), jgI_ok k0, jgI_ok k0, k1, shl0, shl0, pk_sub (by omega), show (2 : Int32) = nI 2 by decide, nI_add, jcs_ok e, jvI_ok, show (2147483647 : Int32) = nI 2147483647 by decide, if_neg (fun q => by have := (nI_eq (by omega) (by omega)).mp q; omega), jgI_ok k0, k1, shr0]
    obtain ⟨c2, hc2, e1⟩ := hn
    have hvt : v ≠ tpH σ := by omega
    have hbt : b ≠ tpH σ := by omega
    have hbv : b ≠ v := fun e => by rw [e, k4] at k0; cases k0
    have kd0 : kdH (nwS σ (6, c2)) v = (6, cap) := by rw [kd_nwS, if_neg hvt]; exact k4
    have e2 : J_J7_copyOf_9075b v (nI c2) σ = some (.inl (some (.ref (tpH σ))), cpB (nwS σ (6, c2)) v (tpH σ) 0 0 cap) := by
      unfold J_J7_copyOf_9075b
      rw [jalB_ok kB (by rw [k4]), if_neg (fun q => by have := (nI_eq (by omega) (by omega)).mp q; omega), jnA_ok (by omega) (by omega), jalB_ok (Or.inl (by rw [kd0])) (by rw [kd0]), if_neg (nI_nlt (by omega) (by omega)), show (0 : Int32) = nI 0 by decide, jcpB_ok (na := cap) (nb := c2) (Or.inl (by rw [kd0])) (by rw [kd0]) (by rw [kd_nwS, if_pos rfl]) (fun i => by rw [in_nwS, if_neg hvt]; exact k12 i) (by omega) (by omega) (by omega) (by omega)]
    have kb : kdH (cpB (nwS σ (6, c2)) v (tpH σ) 0 0 cap) b = (1, 6) := by rw [kd_cpB, kd_nwS, if_neg hbt]; exact k0
    have old : ∀ q, q ≠ tpH σ → kdH (cpB (nwS σ (6, c2)) v (tpH σ) 0 0 cap) q = kdH σ q ∧ inH (cpB (nwS σ (6, c2)) v (tpH σ) 0 0 cap) q = inH σ q ∧ rfH (cpB (nwS σ (6, c2)) v (tpH σ) 0 0 cap) q = rfH σ q := fun q hq => ⟨by rw [kd_cpB, kd_nwS, if_neg hq], by rw [in_cpB, if_neg hq, in_nwS, if_neg hq], by rw [rf_cpB, rf_nwS, if_neg hq]⟩
    have new : ∀ i, inH (cpB (nwS σ (6, c2)) v (tpH σ) 0 0 cap) (tpH σ) i = if i < cap then inH σ v i else 0 := fun i => by
      rw [in_cpB, if_pos rfl]
      by_cases q : i < cap
      · rw [pk_cpy_in (by omega) (by omega), if_pos q, in_nwS, if_neg hvt, show 0 + (i - 0) = i by omega]
      · rw [pk_cpy_out (by omega), if_neg q, in_nwS, if_pos rfl]
    have hg : gw (fun _ => False) (tpH σ) σ (cpB (nwS σ (6, c2)) v (tpH σ) 0 0 cap) := (gw_nw σ (6, c2)).tr (gw_cpB _ 0 0 cap (Nat.le_refl _))
    refine ⟨rfS (cpB (nwS σ (6, c2)) v (tpH σ) 0 0 cap) b 0 (some (tpH σ)), tpH σ, c2, ?_, ⟨?_, ?_, ?_, ?_, ?_, k5, by omega, by show b < tpH σ + 1; omega, Nat.lt_succ_self _, by omega, by omega, by omega, fun i => ?_, k13, fun i hi => ?_⟩, by omega, Or.inr rfl, (hg.lw (by omega)).tr (gw_rf' _ 0 _ k5), ?_, fun _ => Nat.le_refl _, fun q => by omega, fun q hq hb => ?_⟩
    · unfold J_J5_ensureCapacityInternal_d00df
      rw [jgR_ok k0, jgR_ok k0, k3, jdr_ok, jalB_ok kB (by rw [k4]), jgI_ok k0, k1, shr0, if_neg (by
        rw [Int32.le_iff_toInt_le, pk_sub_toInt (by omega) (by omega)]
        show ¬ (m : Int) - cap ≤ 0
        omega), jdr_ok, jcv_ok k0 e1, jvI_ok, jgI_ok k0, k1, shl0, jcs_ok e2, jvA_ok, jpR_ok kb]
    · exact kb
    · rw [in_rfS, (old b hbt).2.1]
      exact k1
    · rw [in_rfS, (old b hbt).2.1]
      exact k2
    · rw [rf_rfS, if_pos ⟨rfl, rfl⟩]
    · rw [kd_rfS, kd_cpB, kd_nwS, if_pos rfl]
    · rw [in_rfS, new]
      by_cases q : i < cap
      · rw [if_pos q]
        exact k12 i
      · rw [if_neg q]
        exact fit0
    · rw [in_rfS, new, if_pos (by omega)]
      exact k14 i hi
    · exact (show kz (cpB (nwS σ (6, c2)) v (tpH σ) 0 0 cap) from kz_nw hz (6, c2)).rfS' _ _ _
    · obtain ⟨o1, o2, o3⟩ := old q (by omega)
      refine ⟨o1, o2, ?_⟩
      rw [← o3]
      funext y
      rw [rf_rfS, if_neg (fun z => hb z.1)]
