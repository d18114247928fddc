/-! Strings and their builders: a String's bytes, a builder's bytes; what the calls answer, and how many cells they make at the least. -/
theorem shl0 (x : Int32) : x <<< ((0 : Int32) &&& 31) = x := by
  rw [show ((0 : Int32) &&& 31) = 0 by decide]
  exact Int32.shiftLeft_zero
theorem shr0 (x : Int32) : x >>> ((0 : Int32) &&& 31) = x := by
  rw [show ((0 : Int32) &&& 31) = 0 by decide]
  exact Int32.shiftRight_zero
theorem by_all : ∀ c, c < 128 → vp_nar .byte (nI c).toInt8.toInt32 = nI c ∧ fits .byte (.int (nI c)) = true ∧ ((nI c &&& (255 : Int32)).toUInt32 % 65536).toInt32 = nI c ∧ vp_nar .char (nI c) = nI c ∧ ((nI c).toUInt32 % 65536).toInt32 = nI c ∧ ¬ (255 : Int32) < nI c := by decide +kernel
/-- a String at a, its cells from lo on and below hi -/
def StrV (σ : Hp) (lo hi a : Nat) (l : List Nat) : Prop := (kdH σ a = (1, 7) ∨ (kdH σ a).1 = 17) ∧ inH σ a 1 = 0 ∧ lo ≤ a ∧ a < hi ∧ hi ≤ tpH σ ∧ (∀ c ∈ l, c < 128) ∧ ∃ v, rfH σ a 0 = some v ∧ lo ≤ v ∧ v < hi ∧ jByt σ v ∧ (kdH σ v).2 = l.length ∧ jFit σ v ∧ ∀ i, i < l.length → inH σ v i = nI (l.getD i 0)
theorem StrV.gw {P : Nat → Prop} {b : Nat} {σ τ : Hp} {lo hi a : Nat} {l : List Nat} (h : StrV σ lo hi a l) (hg : gw P b σ τ) (hb : hi ≤ b) (hP : ∀ q, P q → ¬ (lo ≤ q ∧ q < hi)) : StrV τ lo hi a l := by
  obtain ⟨k0, k1, k2, k3, k4, k5, v, k6, k7, k8, k9, k10, k11, k12⟩ := h
  have ga := hg.2 a (by omega)
  have gv := hg.2 v (by omega)
  have na : ¬ P a := fun z => hP a z ⟨k2, k3⟩
  have nv : ¬ P v := fun z => hP v z ⟨k7, k8⟩
  refine ⟨by rw [ga.1]; exact k0, by rw [(ga.2 na).1]; exact k1, k2, k3, Nat.le_trans k4 hg.1, k5, v, by rw [(ga.2 na).2.1]; exact k6, k7, k8, ?_, by rw [gv.1]; exact k10, fun i => ?_, fun i hi => ?_⟩
  · unfold jByt
    rw [gv.1]
    exact k9
  · rw [(gv.2 nv).1]
    exact k11 i
  · rw [(gv.2 nv).1]
    exact k12 i hi
theorem StrV.wk {σ : Hp} {lo hi lo' hi' a : Nat} {l : List Nat} (h : StrV σ lo hi a l) (h1 : lo' ≤ lo) (h2 : hi ≤ hi') (h3 : hi' ≤ tpH σ) : StrV σ lo' hi' a l := by
  obtain ⟨k0, k1, k2, k3, k4, k5, v, k6, k7, k8, k9⟩ := h
  exact ⟨k0, k1, by omega, by omega, h3, k5, v, k6, by omega, by omega, k9⟩
theorem StrV.ne {σ : Hp} {lo hi a : Nat} {l : List Nat} (h : StrV σ lo hi a l) {v : Nat} (hv : v < lo ∨ hi ≤ v) : ∀ w, rfH σ a 0 = some w → w ≠ v := by
  obtain ⟨k0, k1, k2, k3, k4, k5, v', k6, k7, k8, k9⟩ := h
  intro w hw e
  rw [k6] at hw
  cases hw
  omega
/-- a builder at b, its bytes at v: of cap places, l of them in use -/
def SbW (σ : Hp) (lo b v cap : Nat) (l : List Nat) : Prop := kdH σ b = (1, 6) ∧ inH σ b 1 = 0 ∧ inH σ b 3 = nI l.length ∧ rfH σ b 0 = some v ∧ kdH σ v = (6, cap) ∧ lo ≤ b ∧ lo ≤ v ∧ b < tpH σ ∧ v < tpH σ ∧ l.length ≤ cap ∧ 16 ≤ cap ∧ cap ≤ 1000 ∧ jFit σ v ∧ (∀ c ∈ l, c < 128) ∧ ∀ i, i < l.length → inH σ v i = nI (l.getD i 0)
theorem SbW.gw {b' : Nat} {σ τ : Hp} {lo b v cap : Nat} {l : List Nat} (h : SbW σ lo b v cap l) (hg : gw (fun _ => False) b' σ τ) (h1 : b < b') (h2 : v < b') : SbW τ lo b v cap l := by
  obtain ⟨k0, k1, k2, k3, k4, k5, k6, k7, k8, k9, k10, k11, k12, k13, k14⟩ := h
  have ga := hg.2 b h1
  have gv := hg.2 v h2
  have ga' := ga.2 (fun z => z)
  have gv' := gv.2 (fun z => z)
  refine ⟨by rw [ga.1]; exact k0, by rw [ga'.1]; exact k1, by rw [ga'.1]; exact k2, by rw [ga'.2.1]; exact k3, by rw [gv.1]; exact k4, k5, k6, Nat.lt_of_lt_of_le k7 hg.1, Nat.lt_of_lt_of_le k8 hg.1, k9, k10, k11, fun i => by rw [gv'.1]; exact k12 i, k13, fun i hi => by rw [gv'.1]; exact k14 i hi⟩
theorem jgIs_ok {σ : Hp} {a : Nat} {K : Int32 → jR} (h : kdH σ a = (1, 7) ∨ (kdH σ a).1 = 17) : jgIs σ a K = K (inH σ a 1) := if_pos h
theorem jgRs_ok {σ : Hp} {a : Nat} {K : Option Nat → jR} (h : kdH σ a = (1, 7) ∨ (kdH σ a).1 = 17) : jgRs σ a K = K (rfH σ a 0) := if_pos h
theorem jalB_ok {σ : Hp} {a n : Nat} {K : Int32 → jR} (h : jByt σ a) (hn : (kdH σ a).2 = n) : jalB σ a K = K (nI n) := by
  unfold jalB
  rw [if_pos h, hn]
theorem jaB_ok {σ : Hp} {a n i : Nat} {K : Int32 → jR} (h : jByt σ a) (hn : (kdH σ a).2 = n) (hi : i < n) (hb : n < 100000) : jaB σ a (nI i) K = K (inH σ a i) := by
  unfold jaB
  rw [if_pos ⟨h, by rw [hn]; exact ix_ok hi hb⟩, nI_clamp (by omega)]
theorem jsB_ok {σ : Hp} {a n i : Nat} {v : Int32} {K : Hp → jR} (h : kdH σ a = (6, n)) (hi : i < n) (hb : n < 100000) : jsB σ a (nI i) v K = K (inS σ a i (vp_nar .byte v)) := by
  unfold jsB
  rw [h, if_pos ⟨rfl, ix_ok hi hb⟩, nI_clamp (by omega)]
theorem jcvS_ok {σ τ : Hp} {a : Nat} {J : jR} {v : Option Value} {K : Option Value → Hp → jR} {KX : String → Hp → jR} (h : kdH σ a = (1, 7) ∨ (kdH σ a).1 = 17) (hJ : J = some (.inl v, τ)) : jcvS σ a J K KX = K v τ := by
  unfold jcvS
  rw [if_pos h, hJ]
theorem jnA_ok {σ : Hp} {t M n : Nat} {K : Nat → Hp → jR} (hn : n ≤ M) (hM : M < 100000) : jnA σ t M (nI n) K = K (tpH σ) (nwS σ (t, n)) := by
  unfold jnA
  rw [nI_clamp (by omega), if_pos ⟨nI_pos (by omega), hn⟩]
theorem jcpB_ok {σ : Hp} {a b sp dp z na nb : Nat} {K : Hp → jR} (ha : jByt σ a) (hna : (kdH σ a).2 = na) (hb : kdH σ b = (6, nb)) (hf : jFit σ a) (h1 : sp + z ≤ na) (h2 : dp + z ≤ nb) (h3 : na < 100000) (h4 : nb < 100000) : jcpB σ a b (nI sp) (nI dp) (nI z) K = K (cpB σ a b sp dp z) := by
  unfold jcpB
  rw [nI_clamp (n := sp) (by omega), nI_clamp (n := dp) (by omega), nI_clamp (n := z) (by omega), if_pos ⟨ha, by rw [hb], hf, nI_pos (by omega), nI_pos (by omega), nI_pos (by omega), by omega, by rw [hb]; exact h2⟩]
theorem s_coder {σ : Hp} {lo hi a : Nat} {l : List Nat} (h : StrV σ lo hi a l) : J_J0_coder_7d493 a σ = some (.inl (some (.int 0)), σ) := by
  unfold J_J0_coder_7d493
  rw [if_neg (by decide), jgIs_ok h.1, h.2.1]
  rfl
theorem s_len {σ : Hp} {lo hi a : Nat} {l : List Nat} (h : StrV σ lo hi a l) : J_J0_length_8abf5 a σ = some (.inl (some (.int (nI l.length))), σ) := by
  have hc := s_coder h
  obtain ⟨k0, k1, k2, k3, k4, k5, v, k6, k7, k8, k9, k10, k11, k12⟩ := h
  unfold J_J0_length_8abf5
  rw [jgRs_ok k0, k6, jdr_ok, jalB_ok k9 k10, jcvS_ok k0 hc, jvI_ok, shr0]
theorem s_chk {σ : Hp} {i n : Nat} (hi : i < n) (hn : n < 100000) : J_J0_checkIndex_df160 (nI i) (nI n) σ = some (.inl none, σ) := by
  have e : J_J3_checkIndex_8e157 (nI i) (nI n) none σ = some (.inl (some (.int (nI i))), σ) := by
    unfold J_J3_checkIndex_8e157
    rw [if_neg (nI_pos (by omega)), if_pos (nI_lt hi (by omega))]
  unfold J_J0_checkIndex_df160
  rw [jcs_ok e, jvI_ok]
theorem s_chr {σ : Hp} {lo hi a : Nat} {l : List Nat} (h : StrV σ lo hi a l) {i : Nat} (hi : i < l.length) (hl : l.length < 100000) : J_J0_charAt_5068e a (nI i) σ = some (.inl (some (.int (nI (l.getD i 0)))), σ) := by
  obtain ⟨k0, k1, k2, k3, k4, k5, v, k6, k7, k8, k9, k10, k11, k12⟩ := h
  have e1 : J_J0_isLatin1_aae02 a σ = some (.inl (some (.int 1)), σ) := by
    unfold J_J0_isLatin1_aae02
    rw [if_neg (by decide), jgIs_ok k0, k1, if_pos rfl]
    rfl
  have hc : l.getD i 0 < 128 := by
    rw [List.getD_eq_getElem?_getD, List.getElem?_eq_getElem hi]
    exact k5 _ (List.getElem_mem hi)
  obtain ⟨b1, b2, b3, b4, b5, b6⟩ := by_all _ hc
  have e2 : J_J1_charAt_3b067 v (nI i) σ = some (.inl (some (.int (nI (l.getD i 0)))), σ) := by
    unfold J_J1_charAt_3b067
    rw [jalB_ok k9 k10, jcs_ok (s_chk hi hl), jvV_ok, jaB_ok k9 k10 hi hl, k12 i hi, b3]
    unfold jrt
    rw [if_pos b4]
  unfold J_J0_charAt_5068e
  rw [jcvS_ok k0 e1, jvI_ok, if_neg (by decide), jgRs_ok k0, k6, jdr_ok, jcs_ok e2, jvI_ok]
  unfold jrt
  rw [if_pos b4]
