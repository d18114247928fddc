/-! The class takes a text: the call. -/
theorem s_D_setText {σ : Hp} {d : Nat} {buf ks : List Nat} {gs fs ss : List Int32} {E : List (List Nat)} {n : Nat} {T : Nat → Tx} {W : Nat} {wr : List Int32} {be : Int32} (h : ClsV σ d buf ks gs fs ss E n T W wr be) (hI : ClsI buf ks gs fs ss E n T W) (hz : kz σ) (hd : d + 28 ≤ tpH σ) (x g : Int32) : (¬ (inN x 6 ∧ inN x (n + 1)) ∧ J_X5_setText d x g σ = some (.inr "java/lang/IndexOutOfBoundsException", thS σ)) ∨ (inN x 6 ∧ inN x (n + 1) ∧ ¬ inR g 1 2 ∧ J_X5_setText d x g σ = some (.inr "java/lang/IllegalArgumentException", thS σ)) ∨ (inR g 1 2 ∧ ∃ i n' U τ, i < 6 ∧ i ≤ n ∧ x = nI i ∧ ((i < n ∧ n' = n ∧ U = T i) ∨ (i = n ∧ n' = n + 1 ∧ U = nTx (tpH σ))) ∧ J_X5_setText d x g σ = some (.inl (some (.int (nI (wd buf).length))), τ) ∧ ClsV τ d [] ks gs fs ss E n' (fun k => if k = i then sTx U buf g else T k) W wr be ∧ ClsI [] ks gs fs ss E n' (fun k => if k = i then sTx U buf g else T k) W ∧ gw (clP d n T) (tpH σ) σ τ ∧ kz τ) := by
  have hh := h
  have hn := hI.2.2.1
  obtain ⟨⟨k0, r0, r1, r2, r3, r4, i5, i6⟩, k1, k2, k3, ⟨a0, a1⟩, k5, k6, k7⟩ := h
  rcases pk_ix x (n := 6) (by omega) with c | c | ⟨i, hi, rfl⟩
  · refine Or.inl ⟨fun ⟨⟨j, j1, j2⟩, _⟩ => by rw [j2] at c; exact nI_pos (by omega) c, ?_⟩
    unfold J_X5_setText jj
    dsimp only
    rw [if_pos c]
  · refine Or.inl ⟨fun ⟨⟨j, j1, j2⟩, _⟩ => by rw [j2] at c; exact nI_ge j1 (by omega) c, ?_⟩
    unfold J_X5_setText jj
    dsimp only
    by_cases c0 : x < 0
    · rw [if_pos c0]
    · have c6 : ¬ x < nI 6 := fun q => by
        rw [Int32.lt_iff_toInt_lt] at q
        rw [Int32.le_iff_toInt_le] at c
        omega
      rw [if_neg c0, jgI_ok k0, i5]
      by_cases cn : nI n < x
      · rw [if_pos cn]
      · rw [if_neg cn, jgR_ok k0, r3, jdr_ok, jal_ok a0, if_neg c6]
  · by_cases hin : i ≤ n
    · have hN : inN (nI i) 6 ∧ inN (nI i) (n + 1) := ⟨⟨i, hi, rfl⟩, ⟨i, by omega, rfl⟩⟩
      right
      have e0 : J_X5_setText d (nI i) g σ = jcs (J_X5_isGrade g σ) (fun w7 t6 => jvI w7 (fun x8 => (if x8 = 0 then some (.inr "java/lang/IllegalArgumentException", thS t6) else jgR t6 d 5 3 (fun r9 => jdr r9 (fun b10 => jaR t6 b10 (nI i) (fun r11 => jnu r11 (jnw t6 4 (fun b37 t38 => jcv t38 b37 4 (J_X4_init b37 t38) (fun w40 t39 => jvV w40 (jgR t39 d 5 3 (fun r41 => jdr r41 (fun b42 => jsT t39 b42 (nI i) b37 (fun t43 => jgI t43 d 5 5 (fun x44 => jpI t43 d 5 5 (x44 + 1) (fun t45 => sBody d g (some b37) t45))))))) (fun E t => some (.inr E, t)))) (fun b36 => sBody d g (some b36) t6))))))) (fun E t => some (.inr E, t)) := by
        unfold J_X5_setText jj sBody
        dsimp only
        rw [if_neg (nI_pos (by omega)), jgI_ok k0, i5, if_neg (nI_nlt hin (by omega)), jgR_ok k0, r3, jdr_ok, jal_ok a0, if_pos (nI_lt hi (by omega))]
      rw [e0]
      rcases s_D_isGrade g σ with ⟨hg, eg⟩ | ⟨hg, eg⟩
      · right
        rw [jcs_ok eg, jvI_ok, if_neg (show ¬ (1 : Int32) = 0 by decide), jgR_ok k0, r3, jdr_ok, jaR_ok a0 hi (by omega), a1 i hi]
        by_cases c : i < n
        · obtain ⟨τ, b1, b2, b3, b4⟩ := s_D_setBody hh hI c g
          rw [if_pos c, jnu_s]
          exact ⟨hg, i, n, T i, τ, hi, hin, rfl, Or.inl ⟨c, rfl, rfl⟩, b1, b2, b3, b4.gw, hz.keep b4⟩
        · obtain rfl : i = n := by omega
          obtain ⟨τ1, a1', a2, a3, a4, a5⟩ := s_D_fresh hh hI hz hd hi
          obtain ⟨τ, b1, b2, b3, b4⟩ := s_D_setBody a2 a3 (i := i) (by omega) g
          rw [if_pos rfl] at b1 b2 b3
          have eT : (fun k => if k = i then sTx (nTx (tpH σ)) buf g else if k = i then nTx (tpH σ) else T k) = (fun k => if k = i then sTx (nTx (tpH σ)) buf g else T k) := by
            funext k
            by_cases q : k = i
            · rw [if_pos q, if_pos q]
            · rw [if_neg q, if_neg q, if_neg q]
          rw [eT] at b2 b3
          rw [if_neg c, jnu_n, a1' (sBody d g) (fun E t => some (.inr E, t))]
          refine ⟨hg, i, i + 1, nTx (tpH σ), τ, hi, hin, rfl, Or.inr ⟨rfl, rfl, rfl⟩, b1, b2, b3, (a4.up (Nat.le_refl _) (fun q _ y => Or.inl y)).tr (b4.gw.up (Nat.le_refl _) (fun q hq y => ?_)), a5.keep b4⟩
          rcases y with y | ⟨j, j1, j2⟩
          · exact Or.inl y
          · dsimp only at j2
            by_cases q' : j = i
            · rw [if_pos q'] at j2
              have : rg (tpH σ) 25 q := j2
              unfold rg at this
              omega
            · rw [if_neg q'] at j2
              exact Or.inr ⟨j, by omega, j2⟩
      · left
        rw [jcs_ok eg, jvI_ok, if_pos rfl]
        exact ⟨hN.1, hN.2, hg, rfl⟩
    · refine Or.inl ⟨fun ⟨_, ⟨j, j1, j2⟩⟩ => hin (by have := (nI_eq (by omega) (by omega)).mp j2; omega), ?_⟩
      unfold J_X5_setText jj
      dsimp only
      rw [if_neg (nI_pos (by omega)), jgI_ok k0, i5, if_pos (nI_lt (by omega) (by omega))]
