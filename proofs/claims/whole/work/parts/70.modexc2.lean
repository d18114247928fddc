/-! The model's exceptions: which one is in the buffer, and the model's way to take one away. -/
theorem nodup_ne {E : List (List Nat)} (h : E.Nodup) : ∀ i j, i < j → j < E.length → E.getD i [] ≠ E.getD j [] := fun i j hij hj => by
  have h2 := List.pairwise_iff_getElem.mp h i j (by omega) hj hij
  simpa [List.getD_eq_getElem?_getD, hj, show i < E.length by omega] using h2
theorem nodup_idx {E : List (List Nat)} (h : E.Nodup) {e : Nat} (he : e < E.length) {w : List Nat} (hw : E.getD e [] = w) : w ∈ E ∧ E.idxOf w = e := idxl_eq E e he hw (fun j hj z => nodup_ne h j e hj he (by rw [z, hw]))
/-- the last one goes to where one is taken away -/
def swp (E : List (List Nat)) (i : Nat) : List (List Nat) := (E.set i (E.getD (E.length - 1) [])).take (E.length - 1)
theorem swp_len {E : List (List Nat)} (i : Nat) : (swp E i).length = E.length - 1 := by
  unfold swp
  rw [List.length_take, List.length_set]
  omega
theorem swp_get {E : List (List Nat)} {i j : Nat} (hi : i < E.length) (hj : j < E.length - 1) : (swp E i).getD j [] = if j = i then E.getD (E.length - 1) [] else E.getD j [] := by
  unfold swp
  simp only [List.getD_eq_getElem?_getD, List.getElem?_take, hj, if_true, List.getElem?_set]
  by_cases e : j = i
  · subst e
    simp [hi]
  · simp [e, Ne.symm e]
theorem del_perm {E : List (List Nat)} {i : Nat} (hi : i < E.length) : E.Perm (E.getD i [] :: del E i) := by
  have e : E = E.take i ++ E.getD i [] :: E.drop (i + 1) := by
    conv => lhs; rw [← List.take_append_drop i E, List.drop_eq_getElem_cons hi]
    simp [List.getD_eq_getElem?_getD, hi]
  unfold del
  conv => lhs; rw [e]
  exact List.perm_middle
theorem swp_perm {E : List (List Nat)} {i : Nat} (hi : i < E.length) : E.Perm (E.getD i [] :: swp E i) := by
  have hl : E = E.take (E.length - 1) ++ [E.getD (E.length - 1) []] := by
    conv => lhs; rw [← List.take_append_drop (E.length - 1) E, List.drop_eq_getElem_cons (show E.length - 1 < E.length by omega)]
    rw [List.drop_of_length_le (by omega)]
    simp [List.getD_eq_getElem?_getD, show E.length - 1 < E.length by omega]
  by_cases c : i = E.length - 1
  · have hs : swp E i = E.take (E.length - 1) := by
      unfold swp
      rw [c]
      apply List.ext_getElem
      · simp
      · intro k h1 h2
        rw [List.length_take, List.length_set] at h1
        simp only [List.getElem_take, List.getElem_set]
        rw [if_neg (by omega)]
    rw [hs, c]
    conv => lhs; rw [hl]
    exact List.perm_append_comm
  · have hp := del_perm hi
    refine hp.trans (List.Perm.cons _ ?_)
    -- del E i and swp E i: the last one moved
    have h1 : del E i = (E.take i ++ (E.drop (i + 1)).take (E.length - 2 - i)) ++ [E.getD (E.length - 1) []] := by
      apply List.ext_getElem
      · unfold del
        simp
        omega
      · intro k k1 k2
        unfold del
        unfold del at k1
        simp only [List.length_append, List.length_take, List.length_drop] at k1
        simp only [List.getElem_append, List.length_append, List.length_take, List.length_drop, List.getElem_take, List.getElem_drop]
        by_cases c1 : k < min i E.length
        · rw [dif_pos c1, dif_pos (by omega), dif_pos c1]
        · rw [dif_neg c1]
          by_cases c2 : k < min i E.length + min (E.length - 2 - i) (E.length - (i + 1))
          · rw [dif_pos c2, dif_neg c1]
          · rw [dif_neg c2]
            have hk : k = E.length - 2 := by omega
            subst hk
            simp only [List.getElem_singleton]
            rw [List.getD_eq_getElem?_getD, List.getElem?_eq_getElem (by omega)]
            simp only [Option.getD_some]
            congr 1
            omega
    have h2 : swp E i = E.take i ++ E.getD (E.length - 1) [] :: (E.drop (i + 1)).take (E.length - 2 - i) := by
      apply List.ext_getElem
      · rw [swp_len]
        simp
        omega
      · intro k k1 k2
        rw [swp_len] at k1
        have := swp_get hi k1
        rw [List.getD_eq_getElem?_getD, List.getElem?_eq_getElem (by rw [swp_len]; exact k1), Option.getD_some] at this
        rw [this]
        simp only [List.getElem_append, List.length_take]
        by_cases c1 : k < min i E.length
        · rw [dif_pos c1, if_neg (by omega), List.getD_eq_getElem?_getD, List.getElem?_eq_getElem (by omega), Option.getD_some]
          simp
        · rw [dif_neg c1]
          by_cases c2 : k = i
          · rw [if_pos c2]
            have : k - min i E.length = 0 := by omega
            simp only [this, List.getElem_cons_zero]
          · rw [if_neg c2]
            obtain ⟨z, hz⟩ : ∃ z, k - min i E.length = z + 1 := ⟨k - min i E.length - 1, by omega⟩
            simp only [hz, List.getElem_cons_succ, List.getElem_take, List.getElem_drop]
            rw [List.getD_eq_getElem?_getD, List.getElem?_eq_getElem (by omega), Option.getD_some]
            congr 1
            omega
    rw [h1, h2]
    refine (List.perm_append_comm.trans ?_)
    rw [List.singleton_append]
    exact List.perm_middle.symm
section MODEB
variable {σ : Hp} {M : Nat} {buf ks : List Nat} {gs fs ss : List Int32} {E : List (List Nat)} {n : Nat} {T T' : Nat → Tx} {W : Nat} {wr : List Int32} {be : Int32}
theorem m_excB (h : MH σ M) (hB : MB σ M buf) (hX : MX σ M E) (hb : (∀ c ∈ buf, c ≤ 26) ∧ buf.length ≤ 80) (hN : E.Nodup) : J_X6_exceptionInBuffer M σ = some (.inl (some (.int (if buf ∈ E then nI (E.idxOf buf) else -1))), σ) := by
  obtain ⟨x1, x2, x3⟩ := hX
  have inner : ∀ (e : Nat), e < E.length → ∀ (kk : Nat → Int32 → Int32 → Int32 → Hp → jR) (v1 : Int32) (d m k : Nat) (f : Bool), (f = true → (E.getD e []).length = buf.length) → buf.length - k = d → k ≤ buf.length → d < m → J_X6_exceptionInBuffer_L34 kk m M v1 (nI e) (bI f) (nI k) σ = kk M v1 (nI e) (bI (f && decide ((E.getD e []).drop k = buf.drop k))) σ := by
    intro e he kk v1
    obtain ⟨y1, y2, y3, y4⟩ := x3 e he
    intro d
    induction d with
    | zero =>
      intro m k f hf hd hk hm
      obtain ⟨m, rfl⟩ : ∃ z, m = z + 1 := ⟨m - 1, by omega⟩
      show J_X6_exceptionInBuffer_L34b kk (J_X6_exceptionInBuffer_L34 kk m) M v1 (nI e) (bI f) (nI k) σ = _
      unfold J_X6_exceptionInBuffer_L34b
      rw [jgI_ok h.1, hB.1, if_pos (nI_le (by omega) (by omega))]
      cases f
      · rfl
      · have := hf rfl
        rw [List.drop_of_length_le (by omega), List.drop_of_length_le (by omega)]
        rfl
    | succ d ih =>
      intro m k f hf hd hk hm
      obtain ⟨m, rfl⟩ : ∃ z, m = z + 1 := ⟨m - 1, by omega⟩
      show J_X6_exceptionInBuffer_L34b kk (J_X6_exceptionInBuffer_L34 kk m) M v1 (nI e) (bI f) (nI k) σ = _
      unfold J_X6_exceptionInBuffer_L34b jj
      dsimp only
      rw [jgI_ok h.1, hB.1, if_neg (nI_ge (by omega) (by omega))]
      cases f
      · rw [if_pos (show bI false = 0 by decide)]
        rfl
      · have hl := hf rfl
        have c1 := y2.g k
        have c2 := hb.1 _ (getD_mem 0 (show k < buf.length by omega))
        rw [if_neg (show ¬ bI true = 0 by decide), e80, mrd h (f := 8) (c := 6) (r := 1600) (by decide) (by omega), y4 k (by omega), mrd h (f := 1) (c := 1) (r := 80) (by decide) (by omega), hB.2 k (by omega), nI_1, dropN (l := E.getD e []) (by omega), dropN (l := buf) (by omega)]
        by_cases z : (E.getD e []).getD k 0 = buf.getD k 0
        · rw [if_pos (by rw [z]), z]
          have := ih m (k + 1) true hf (by omega) (by omega) (by omega)
          rw [show (1 : Int32) = bI true from rfl, this]
          simp
        · rw [if_neg (fun y => z ((nI_eq (by omega) (by omega)).mp y)), decide_eq_false (fun y => z (List.cons.inj y).1)]
          exact ih m (k + 1) false (fun y => by cases y) (by omega) (by omega) (by omega)
  have loop : ∀ (d m e : Nat) (v : Int32), E.length - e = d → e ≤ E.length → d < m → (v = if buf ∈ E ∧ E.idxOf buf < e then nI (E.idxOf buf) else -1) → J_X6_exceptionInBuffer_L4 m M v (nI e) σ = some (.inl (some (.int (if buf ∈ E then nI (E.idxOf buf) else -1))), σ) := by
    intro d
    induction d with
    | zero =>
      intro m e v hd he hm hv
      obtain ⟨m, rfl⟩ : ∃ z, m = z + 1 := ⟨m - 1, by omega⟩
      show J_X6_exceptionInBuffer_L4b (J_X6_exceptionInBuffer_L4 m) M v (nI e) σ = _
      unfold J_X6_exceptionInBuffer_L4b
      rw [jgI_ok h.1, x1, if_pos (nI_le (by omega) (by omega)), hv]
      by_cases c : buf ∈ E
      · have := List.idxOf_lt_length_of_mem c
        rw [if_pos ⟨c, by omega⟩, if_pos c]
      · rw [if_neg (fun z => c z.1), if_neg c]
    | succ d ih =>
      intro m e v hd he hm hv
      obtain ⟨m, rfl⟩ : ∃ z, m = z + 1 := ⟨m - 1, by omega⟩
      have hel : e < E.length := by omega
      obtain ⟨y1, y2, y3, y4⟩ := x3 e hel
      have hin := fun kk f hf => inner e hel kk v buf.length jN 0 f hf rfl (Nat.zero_le _) (by unfold jN; omega)
      rw [List.drop_zero, List.drop_zero, nI_0] at hin
      show J_X6_exceptionInBuffer_L4b (J_X6_exceptionInBuffer_L4 m) M v (nI e) σ = _
      unfold J_X6_exceptionInBuffer_L4b jj
      dsimp only
      rw [jgI_ok h.1, x1, if_neg (nI_ge hel (by omega)), mrd h (f := 9) (c := 7) (r := 20) (by decide) (by omega), y3, jgI_ok h.1, hB.1]
      have fin : ∀ (b : Bool), (b = decide (E.getD e [] = buf)) → (if bI b = 0 then J_X6_exceptionInBuffer_L4 m M v (nI e + 1) σ else J_X6_exceptionInBuffer_L4 m M (nI e) (nI e + 1) σ) = some (.inl (some (.int (if buf ∈ E then nI (E.idxOf buf) else -1))), σ) := by
        intro b hb'
        rw [nI_1]
        by_cases c : E.getD e [] = buf
        · obtain ⟨q1, q2⟩ := nodup_idx hN hel c
          rw [hb', decide_eq_true c, if_neg (show ¬ bI true = 0 by decide)]
          exact ih m (e + 1) _ (by omega) (by omega) (by omega) (by rw [if_pos ⟨q1, by omega⟩, q2])
        · rw [hb', decide_eq_false c, if_pos (show bI false = 0 by decide)]
          refine ih m (e + 1) v (by omega) (by omega) (by omega) ?_
          rw [hv]
          by_cases c2 : buf ∈ E ∧ E.idxOf buf < e
          · rw [if_pos c2, if_pos ⟨c2.1, by omega⟩]
          · rw [if_neg c2, if_neg (fun z => c2 ⟨z.1, by
              by_cases y : E.idxOf buf = e
              · exact (c (by rw [← y]; exact idxl_get z.1)).elim
              · omega⟩)]
      by_cases c : (E.getD e []).length = buf.length
      · rw [if_pos (by rw [c]), show (1 : Int32) = bI true from rfl, hin _ true (fun _ => c), Bool.true_and]
        exact fin _ rfl
      · rw [if_neg (fun z => c ((nI_eq (by omega) (by omega)).mp z))]
        refine (hin _ false (fun y => by cases y)).trans ?_
        exact fin _ (decide_eq_false (fun z => c (by rw [z]))).symm
  exact loop E.length jN 0 (-1) rfl (Nat.zero_le _) (by unfold jN; omega) (by rw [if_neg (fun z => Nat.not_lt_zero _ z.2)])
end MODEB
