/-! The model's longest rule: its loop. -/
theorem i32_le {x y : Int32} : x ≤ y ↔ ¬ y < x := by
  rw [Int32.lt_iff_toInt_lt, Int32.le_iff_toInt_le]
  omega
theorem s_M_longest {σ : Hp} {M : Nat} (h : MH σ M) {ks : List Nat} {gs fs ss : List Int32} (hR : MR σ M ks gs fs ss) {E : List (List Nat)} (hI : RubI ks gs fs ss E) {a : Nat} {v : List Nat} (hv : MW σ M a v) (g : Int32) {m : Nat} (hm : m ≤ 4) : J_X6_longest M (nI a) (nI v.length) (nI m) g σ = some (.inl (some (.int (bv ((pick ks gs g v (min m v.length)).map Prod.snd)))), σ) := by
  obtain ⟨wf, hF⟩ := hI.rw
  have hl := hR.2.1
  have loop : ∀ (d n r : Nat) (b : Option Nat), ks.length - r = d → r ≤ ks.length → Best gs wf g v m b r → d < n → J_X6_longest_L6 n M (nI a) (nI v.length) (nI m) g (bv b) (nI r) σ = some (.inl (some (.int (bv ((pick ks gs g v (min m v.length)).map Prod.snd)))), σ) := by
    intro d
    induction d with
    | zero =>
      intro n r b hd hr hB hn
      obtain ⟨n, rfl⟩ : ∃ z, n = z + 1 := ⟨n - 1, by omega⟩
      obtain rfl : r = ks.length := by omega
      show J_X6_longest_L6b (J_X6_longest_L6 n) M (nI a) (nI v.length) (nI m) g (bv b) (nI ks.length) σ = _
      unfold J_X6_longest_L6b
      rw [jgI_ok h.1, hR.1, if_pos (nI_le (Nat.le_refl _) (by omega)), pick_best hI hF hv.2.1 hm hB]
    | succ d ih =>
      intro n r b hd hr hB hn
      obtain ⟨n, rfl⟩ : ∃ z, n = z + 1 := ⟨n - 1, by omega⟩
      have hrl : r < ks.length := by omega
      obtain ⟨f1, f2, f3, f4⟩ := hF r hrl
      have keep : (¬ isL gs wf g v m r ∨ ∃ p, b = some p ∧ (wf r).length ≤ (wf p).length) → J_X6_longest_L6 n M (nI a) (nI v.length) (nI m) g (bv b) (nI r + 1) σ = some (.inl (some (.int (bv ((pick ks gs g v (min m v.length)).map Prod.snd)))), σ) := fun hz => by
        rw [nI_1]
        exact ih n (r + 1) b (by omega) (by omega) (hB.no hz) (by omega)
      show J_X6_longest_L6b (J_X6_longest_L6 n) M (nI a) (nI v.length) (nI m) g (bv b) (nI r) σ = _
      unfold J_X6_longest_L6b jj
      dsimp only
      rw [jgI_ok h.1, hR.1, if_neg (nI_ge hrl (by omega)), mrd h (f := 4) (c := 3) (r := 40) (by decide) (by omega), (hR.2.2 r hrl).2.1]
      by_cases c1 : g < gs.getD r 0
      · rw [if_pos c1, if_pos rfl]
        exact keep (Or.inl (fun z => i32_le.mp z.1 c1))
      · rw [if_neg c1, jcv_ok h.1 (s_M_lengthOf h hR hrl f1 f3 f4), jvI_ok]
        by_cases c2 : m < (wf r).length
        · rw [if_pos (nI_lt c2 (by omega)), if_pos rfl]
          exact keep (Or.inl (fun z => by have := z.2.1; omega))
        · rw [if_neg (nI_nlt (by omega) (by omega)), jcv_ok h.1 (s_M_stands h hR hF hrl hv), jvI_ok]
          by_cases c3 : (wf r).length ≤ v.length ∧ wf r = v.take (wf r).length
          · have hL : isL gs wf g v m r := ⟨i32_le.mpr c1, by omega, c3.1, c3.2⟩
            rw [decide_eq_true c3, if_neg (show ¬ bI true = 0 by decide), if_neg (show ¬ (1 : Int32) = 0 by decide)]
            have take : (b = none ∨ ∃ p, b = some p ∧ (wf p).length < (wf r).length) → J_X6_longest_L6 n M (nI a) (nI v.length) (nI m) g (nI r) (nI r + 1) σ = some (.inl (some (.int (bv ((pick ks gs g v (min m v.length)).map Prod.snd)))), σ) := fun hz => by
              rw [nI_1]
              exact ih n (r + 1) (some r) (by omega) (by omega) (hB.yes hL hz) (by omega)
            cases hb : b with
            | none =>
              rw [show bv none = -1 from rfl, if_pos rfl]
              exact take (Or.inl hb)
            | some p =>
              obtain ⟨p1, p2, p3⟩ := hB.2 p hb
              obtain ⟨q1, q2, q3, q4⟩ := hF p (by omega)
              rw [show bv (some p) = nI p from rfl, if_neg (ne_m1 (by omega)), jcv_ok h.1 (s_M_lengthOf h hR hrl f1 f3 f4), jvI_ok, jcv_ok h.1 (s_M_lengthOf h hR (by omega) q1 q3 q4), jvI_ok]
              by_cases c4 : (wf r).length ≤ (wf p).length
              · rw [if_pos (nI_le c4 (by omega))]
                have := keep (Or.inr ⟨p, hb, c4⟩)
                rw [hb] at this
                exact this
              · rw [if_neg (nI_ge (by omega) (by omega))]
                exact take (Or.inr ⟨p, hb, by omega⟩)
          · rw [decide_eq_false c3, if_pos (show bI false = 0 by decide), if_pos rfl]
            exact keep (Or.inl (fun z => c3 z.2.2))
  have := loop ks.length jN 0 none rfl (Nat.zero_le _) ⟨fun _ q hq => (Nat.not_lt_zero _ hq).elim, fun p e => by cases e⟩ (by unfold jN; omega)
  exact this
