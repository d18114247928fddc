/-! The model translates a word: the loop. -/
theorem qW_no {M c : Nat} (hc : 1 ≤ c) (hc' : c ≠ 16) (k : Nat) : ¬ qW M (M + c) k := fun z => by unfold qW at z; omega
theorem s_M_translates_L {M : Nat} {ks : List Nat} {gs fs ss : List Int32} {E : List (List Nat)} (hI : RubI ks gs fs ss E) (hss : ∀ s ∈ ss, ¬ s < 0) {i a : Nat} {t w : List Nat} {g : Int32} {m : Nat} (hm1 : 1 ≤ m) (hm : m ≤ 4) (hwl : w.length ≤ 80) : ∀ (d n k : Nat) (acc : List Int32) (σ : Hp), MH σ M → MR σ M ks gs fs ss → MT σ M i t g → MW σ M a w → MWd σ M acc → acc.length + 2 * (w.length - k) ≤ 160 → w.length - k ≤ d → k ≤ w.length → d < n → ∃ τ, J_X6_translates_L40 n M (nI i) (nI a) (nI w.length) (nI m) (nI k) σ = some (.inl none, τ) ∧ MWd τ M (acc ++ trW ks gs fs ss g m (w.length - k) (w.drop k)) ∧ ai (qW M) σ τ := by
  intro d
  induction d with
  | zero =>
    intro n k acc σ h hR hT hw hA hc hd hk hn
    obtain ⟨n, rfl⟩ : ∃ z, n = z + 1 := ⟨n - 1, by omega⟩
    refine ⟨σ, ?_, by rw [show w.length - k = 0 by omega]; unfold trW; rw [List.append_nil]; exact hA, ai.rf⟩
    show J_X6_translates_L40b (J_X6_translates_L40 n) M (nI i) (nI a) (nI w.length) (nI m) (nI k) σ = _
    unfold J_X6_translates_L40b
    rw [if_pos (nI_le (by omega) (by omega))]
  | succ d ih =>
    intro n k acc σ h hR hT hw hA hc hd hk hn
    obtain ⟨n, rfl⟩ : ∃ z, n = z + 1 := ⟨n - 1, by omega⟩
    by_cases hkw : w.length ≤ k
    · refine ⟨σ, ?_, by rw [show w.length - k = 0 by omega]; unfold trW; rw [List.append_nil]; exact hA, ai.rf⟩
      show J_X6_translates_L40b (J_X6_translates_L40 n) M (nI i) (nI a) (nI w.length) (nI m) (nI k) σ = _
      unfold J_X6_translates_L40b
      rw [if_pos (nI_le (by omega) (by omega))]
    · have hlen : (w.drop k).length = w.length - k := List.length_drop ..
      have hL := s_M_longest h hR hI (hw.drop hk) g hm
      rw [hlen] at hL
      have hal := hw.1
      have hpb := pick_b ks gs g (w.drop k) (min m (w.length - k))
      have hpb2 := hpb.2 (by omega)
      have heb := emt_b fs ss (pick ks gs g (w.drop k) (min m (w.length - k)))
      -- one step
      have hstep : ∃ τ, J_X6_translates_L40 (n + 1) M (nI i) (nI a) (nI w.length) (nI m) (nI k) σ = J_X6_translates_L40 n M (nI i) (nI a) (nI w.length) (nI m) (nI (k + adv (pick ks gs g (w.drop k) (min m (w.length - k))))) τ ∧ MWd τ M (acc ++ emt fs ss (pick ks gs g (w.drop k) (min m (w.length - k)))) ∧ ai (qW M) σ τ := by
        obtain ⟨wf, hF⟩ := hI.rw
        have hpk := pick_L hI hF (hw.drop hk).2.1 (g := g) (m := m) (min m (w.length - k)) (by omega) (by rw [hlen]; omega) (by omega)
        show ∃ τ, J_X6_translates_L40b (J_X6_translates_L40 n) M (nI i) (nI a) (nI w.length) (nI m) (nI k) σ = _ ∧ _
        unfold J_X6_translates_L40b jj
        dsimp only
        rw [if_neg (nI_ge (by omega) (by omega)), mrd h (f := 13) (c := 10) (r := 6) (by decide) hT.1.1, hT.2.2.1, nI_add, pk_sub hk, jcv_ok h.1 hL, jvI_ok]
        have r22 : rfH σ M 22 = some (M + 16) := (h.2 (22, 16, 160) (by decide)).1
        have k16 : kdH σ (M + 16) = (2, 160) := (h.2 (22, 16, 160) (by decide)).2.1
        have i23 : ∀ x : Int32, inH (inS σ (M + 16) acc.length x) M 23 = nI acc.length := fun x => by
          rw [in_inS, if_neg (by omega)]
          exact hA.1
        cases hp : pick ks gs g (w.drop k) (min m (w.length - k)) with
        | none =>
          obtain ⟨w1, w2⟩ := hA.push (63 : Int32)
          refine ⟨_, ?_, w1, w2⟩
          rw [show bv (Option.map Prod.snd (none : Option (Nat × Nat))) = -1 from rfl, jgR_ok h.1, jgI_ok h.1, hA.1, if_pos rfl, r22, jdr_ok, jsI_ok k16 (by omega) (by omega), jgI_ok (by exact h.1), i23, jpI_ok (by exact h.1), if_pos rfl, if_pos rfl, nI_1]
          rfl
        | some sp =>
          obtain ⟨s, p⟩ := sp
          obtain ⟨p1, p2, p3, p4⟩ := hpk.2 s p hp
          obtain ⟨q1, q2, q3, q4⟩ := hF p p1
          have hlen40 := hR.2.1
          have hl := s_M_lengthOf h hR p1 q1 q3 q4
          have hne := ne_m1 (k := p) (by omega)
          obtain ⟨w1, w2⟩ := hA.push (fs.getD p 0)
          have h2 := h.ai w2
          have hR2 : MR _ M ks gs fs ss := hR.ai w2 (fun j => ⟨qW_no (by omega) (by omega) j, qW_no (by omega) (by omega) j, qW_no (by omega) (by omega) j, qW_no (by omega) (by omega) j⟩) (fun z => by unfold qW at z; omega)
          rw [show bv (Option.map Prod.snd (some (s, p))) = nI p from rfl, jgR_ok h.1, jgI_ok h.1, hA.1, if_neg hne, mrd h (f := 5) (c := 4) (r := 40) (by decide) (by omega), (hR.2.2 p p1).2.2.1, r22, jdr_ok, jsI_ok k16 (by omega) (by omega), jgI_ok (by exact h.1), i23, jpI_ok (by exact h.1), if_neg hne, mrd h2 (f := 6) (c := 5) (r := 40) (by decide) (by omega), (hR2.2.2 p p1).2.2.2]
          have hl2 := s_M_lengthOf h2 hR2 p1 q1 q3 q4
          by_cases e0 : ss.getD p 0 = 0
          · refine ⟨_, ?_, ?_, w2⟩
            · rw [if_pos (show ss.getD p 0 ≤ 0 by rw [e0]; decide), if_neg hne, jcv_ok h2.1 hl2, jvI_ok, p3, nI_add]
              rfl
            · unfold emt
              dsimp only
              rw [if_pos e0]
              exact w1
          · have hns := hss _ (getD_mem 0 (show p < ss.length by rw [hI.2.2.1]; exact p1))
            have hgt : ¬ ss.getD p 0 ≤ 0 := fun y => by
              rw [Int32.lt_iff_toInt_lt] at hns
              rw [Int32.le_iff_toInt_le] at y
              exact e0 (Int32.toInt_inj.mp (by omega))
            have i23b : ∀ (υ : Hp) (kk : Nat) (x : Int32), inH (inS υ (M + 16) kk x) M 23 = inH υ M 23 := fun υ kk x => by rw [in_inS, if_neg (by omega)]
            have hlen1 : (acc ++ [fs.getD p 0]).length = acc.length + 1 := by rw [List.length_append]; rfl
            obtain ⟨w3, w4⟩ := w1.push (ss.getD p 0)
            have h3 := h2.ai w4
            have hR3 : MR _ M ks gs fs ss := hR2.ai w4 (fun j => ⟨qW_no (by omega) (by omega) j, qW_no (by omega) (by omega) j, qW_no (by omega) (by omega) j, qW_no (by omega) (by omega) j⟩) (fun z => by unfold qW at z; omega)
            have hl3 := s_M_lengthOf h3 hR3 p1 q1 q3 q4
            refine ⟨_, ?_, ?_, w2.tr w4⟩
            · rw [if_neg hgt, jgR_ok h2.1, jgI_ok h2.1, w1.1, mrd h2 (f := 6) (c := 5) (r := 40) (by decide) (by omega), (hR2.2.2 p p1).2.2.2, (h2.2 (22, 16, 160) (by decide)).1, jdr_ok, jsI_ok (h2.2 (22, 16, 160) (by decide)).2.1 (by rw [hlen1]; show acc.length + 1 < 160; omega) (by decide), jgI_ok (by exact h2.1), i23b, w1.1, jpI_ok (by exact h2.1), if_neg hne, jcv_ok h3.1 hl3, jvI_ok, p3, nI_add]
              rfl
            · unfold emt
              dsimp only
              rw [if_neg e0]
              rw [List.append_assoc] at w3
              exact w3
      obtain ⟨τ, a1, a2, a3⟩ := hstep
      obtain ⟨υ, b1, b2, b3⟩ := ih n (k + adv (pick ks gs g (w.drop k) (min m (w.length - k)))) _ τ (h.ai a3) (hR.ai a3 (fun j => ⟨qW_no (by omega) (by omega) j, qW_no (by omega) (by omega) j, qW_no (by omega) (by omega) j, qW_no (by omega) (by omega) j⟩) (fun z => by unfold qW at z; omega)) (hT.ai a3 (fun j => ⟨qW_no (by omega) (by omega) j, qW_no (by omega) (by omega) j, qW_no (by omega) (by omega) j⟩)) (hw.ai a3 (fun j => qW_no (by omega) (by omega) j)) a2 (by rw [List.length_append]; omega) (by omega) (by omega) (by omega)
      refine ⟨υ, by rw [a1]; exact b1, ?_, a3.tr b3⟩
      have e2 : trW ks gs fs ss g m (w.length - k) (w.drop k) = emt fs ss (pick ks gs g (w.drop k) (min m (w.length - k))) ++ trW ks gs fs ss g m (w.length - (k + adv (pick ks gs g (w.drop k) (min m (w.length - k))))) (w.drop (k + adv (pick ks gs g (w.drop k) (min m (w.length - k))))) := by
        obtain ⟨z, hz⟩ : ∃ z, w.length - k = z + 1 := ⟨w.length - k - 1, by omega⟩
        conv => lhs; rw [hz]; unfold trW
        rw [if_neg (fun y => by rw [y] at hlen; simp at hlen; omega), hlen, List.drop_drop, hz, trW_f _ _ _ _ _ _ z (w.length - (k + adv (pick ks gs g (w.drop k) (min m (z + 1))))) _ (by rw [List.length_drop]; rw [hz] at hpb; omega) (by rw [List.length_drop]; omega)]
      rw [e2, ← List.append_assoc]
      exact b2
