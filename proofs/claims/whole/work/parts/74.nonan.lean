/-! No quotient of the law is a NaN. -/
def okD (f : FP.Core.Fmt) : FP.Core.Datum → Prop
  | .nan => False
  | .inf _ => True
  | .fin _ c q => c < 2 ^ f.p ∧ q ≤ f.qmax
theorem okD_bound (f : FP.Core.Fmt) (s : Bool) (c : Nat) (q : Int) (h : c < 2 ^ f.p) : okD f (FP.Core.bound f s c q) := by
  unfold FP.Core.bound
  split
  · rename_i h2
    exact ⟨h, h2⟩
  · trivial
theorem okD_round (f : FP.Core.Fmt) (hp : 1 ≤ f.p) (hq : f.qmin ≤ f.qmax) (s : Bool) (n d : Nat) (e : Int) : okD f (FP.Core.roundRatio f s n d e) := by
  unfold FP.Core.roundRatio
  split
  · exact ⟨Nat.two_pow_pos _, hq⟩
  · unfold FP.Core.roundAt FP.Core.settle
    split
    · rename_i h
      exact okD_bound f _ _ _ h
    · exact okD_bound f _ _ _ (Nat.pow_lt_pow_right (by omega) (by omega))
theorem okD_b32 (s : Bool) (n d : Nat) (e : Int) : okD FP.Core.b32 (FP.Core.roundRatio FP.Core.b32 s n d e) := okD_round _ (by decide) (by decide) s n d e
theorem okD_b64 (s : Bool) (n d : Nat) (e : Int) : okD FP.Core.b64 (FP.Core.roundRatio FP.Core.b64 s n d e) := okD_round _ (by decide) (by decide) s n d e
theorem enc32 {d : FP.Core.Datum} (h : okD FP.Core.b32 d) : FP.Core.encode FP.Core.b32 d % 2 ^ 31 ≤ 2139095040 ∧ FP.Core.encode FP.Core.b32 d < 2 ^ 32 := by
  have ht : FP.Core.b32.tails = 8388608 := by decide
  have he : FP.Core.b32.exps = 256 := by decide
  have hn : FP.Core.b32.qmin = -149 := by decide
  have hx : FP.Core.b32.qmax = 104 := by decide
  cases d with
  | nan => exact h.elim
  | inf s =>
    unfold FP.Core.encode FP.Core.assemble
    rw [ht, he]
    cases s <;> decide
  | fin s c q =>
    obtain ⟨h1, h2⟩ := h
    rw [hx] at h2
    have h1' : c < 16777216 := h1
    unfold FP.Core.encode FP.Core.assemble
    dsimp only
    rw [ht, he, hn]
    have hs : s.toNat ≤ 1 := by cases s <;> decide
    split
    · omega
    · omega
theorem enc64 {d : FP.Core.Datum} (h : okD FP.Core.b64 d) : FP.Core.encode FP.Core.b64 d % 2 ^ 63 ≤ 9218868437227405312 ∧ FP.Core.encode FP.Core.b64 d < 2 ^ 64 := by
  have ht : FP.Core.b64.tails = 4503599627370496 := by decide
  have he : FP.Core.b64.exps = 2048 := by decide
  have hn : FP.Core.b64.qmin = -1074 := by decide
  have hx : FP.Core.b64.qmax = 971 := by decide
  cases d with
  | nan => exact h.elim
  | inf s =>
    unfold FP.Core.encode FP.Core.assemble
    rw [ht, he]
    cases s <;> decide
  | fin s c q =>
    obtain ⟨h1, h2⟩ := h
    rw [hx] at h2
    have h1' : c < 9007199254740992 := h1
    unfold FP.Core.encode FP.Core.assemble
    dsimp only
    rw [ht, he, hn]
    have hs : s.toNat ≤ 1 := by cases s <;> decide
    split
    · omega
    · omega
theorem dec32 {n : Nat} (h : n % 2 ^ 31 ≤ 2139095040) : FP.Core.decode FP.Core.b32 n ≠ .nan := by
  have ht : FP.Core.b32.tails = 8388608 := by decide
  have he : FP.Core.b32.exps = 256 := by decide
  unfold FP.Core.decode
  split
  · rename_i h1
    split
    · exact fun z => by cases z
    · rename_i h2
      exfalso
      apply h2
      unfold FP.Core.fieldE at h1
      unfold FP.Core.fieldT
      rw [ht, he] at h1
      rw [ht]
      omega
  · split
    · exact fun z => by cases z
    · exact fun z => by cases z
theorem dec64 {n : Nat} (h : n % 2 ^ 63 ≤ 9218868437227405312) : FP.Core.decode FP.Core.b64 n ≠ .nan := by
  have ht : FP.Core.b64.tails = 4503599627370496 := by decide
  have he : FP.Core.b64.exps = 2048 := by decide
  unfold FP.Core.decode
  split
  · rename_i h1
    split
    · exact fun z => by cases z
    · rename_i h2
      exfalso
      apply h2
      unfold FP.Core.fieldE at h1
      unfold FP.Core.fieldT
      rw [ht, he] at h1
      rw [ht]
      omega
  · split
    · exact fun z => by cases z
    · exact fun z => by cases z
/-- a float, a double that is no NaN -/
def nn32 (x : UInt32) : Prop := x.toNat % 2 ^ 31 ≤ 2139095040
def nn64 (x : UInt64) : Prop := x.toNat % 2 ^ 63 ≤ 9218868437227405312
theorem nn32_of {d : FP.Core.Datum} (h : okD FP.Core.b32 d) : nn32 (UInt32.ofNat (FP.Core.encode FP.Core.b32 d)) := by
  obtain ⟨a, b⟩ := enc32 h
  unfold nn32
  rw [UInt32.toNat_ofNat', Nat.mod_eq_of_lt b]
  exact a
theorem nn64_of {d : FP.Core.Datum} (h : okD FP.Core.b64 d) : nn64 (UInt64.ofNat (FP.Core.encode FP.Core.b64 d)) := by
  obtain ⟨a, b⟩ := enc64 h
  unfold nn64
  rw [UInt64.toNat_ofNat', Nat.mod_eq_of_lt b]
  exact a
theorem jn32_ok {x : UInt32} (h : nn32 x) (K : jR) : jn32 x K = K := by
  unfold jn32
  have e : (x &&& 2147483647).toNat = x.toNat % 2 ^ 31 := by
    rw [UInt32.toNat_and]
    exact Nat.and_two_pow_sub_one_eq_mod _ 31
  rw [if_pos]
  rw [UInt32.le_iff_toNat_le, e]
  exact h
theorem jn64_ok {x : UInt64} (h : nn64 x) (K : jR) : jn64 x K = K := by
  unfold jn64
  have e : (x &&& 9223372036854775807).toNat = x.toNat % 2 ^ 63 := by
    rw [UInt64.toNat_and]
    exact Nat.and_two_pow_sub_one_eq_mod _ 63
  rw [if_pos]
  rw [UInt64.le_iff_toNat_le, e]
  exact h
theorem quo32 {x y : FP.Core.Datum} (hx : x ≠ .nan) (hy : ∃ t d r, y = .fin t d r ∧ d ≠ 0) : okD FP.Core.b32 (FP.Core.quotient FP.Core.b32 x y) := by
  obtain ⟨t, d, r, rfl, hd⟩ := hy
  cases x with
  | nan => exact (hx rfl).elim
  | inf s => trivial
  | fin s c q =>
    unfold FP.Core.quotient
    dsimp only
    rw [if_neg hd]
    exact okD_b32 _ _ _ _
theorem quo64 {x y : FP.Core.Datum} (hx : x ≠ .nan) (hy : ∃ t d r, y = .fin t d r ∧ d ≠ 0) : okD FP.Core.b64 (FP.Core.quotient FP.Core.b64 x y) := by
  obtain ⟨t, d, r, rfl, hd⟩ := hy
  cases x with
  | nan => exact (hx rfl).elim
  | inf s => trivial
  | fin s c q =>
    unfold FP.Core.quotient
    dsimp only
    rw [if_neg hd]
    exact okD_b64 _ _ _ _
theorem nn_i2f (x : Int32) : nn32 (FP.i2f x) := nn32_of (okD_b32 _ _ _ _)
theorem nn_i2d (x : Int32) : nn64 (FP.i2d x) := nn64_of (okD_b64 _ _ _ _)
/-- a datum that is a number, not 0 -/
def fnz : FP.Core.Datum → Bool
  | .fin _ c _ => decide (c ≠ 0)
  | _ => false
theorem fnz_ex {y : FP.Core.Datum} (h : fnz y = true) : ∃ t d r, y = .fin t d r ∧ d ≠ 0 := by
  cases y with
  | nan => cases h
  | inf s => cases h
  | fin t d r => exact ⟨t, d, r, rfl, of_decide_eq_true h⟩
theorem fnz_all : ∀ a, a < 256 → a ≠ 0 → fnz (FP.Core.decode FP.Core.b32 (FP.i2f (nI a)).toNat) = true := by decide +kernel
theorem nn_share {p a : Nat} (ha : a < 256) (h0 : a ≠ 0) : nn32 (FP.fdiv (FP.i2f (nI p)) (FP.i2f (nI a))) := nn32_of (quo32 (dec32 (nn_i2f (nI p))) (fnz_ex (fnz_all a ha h0)))
theorem nn_mean (x : Int32) : nn64 (FP.ddiv (FP.i2d x) 4618441417868443648) := nn64_of (quo64 (dec64 (nn_i2d x)) (fnz_ex (by decide +kernel)))
theorem nn_f2d {x : UInt32} (h : nn32 x) : nn64 (FP.f2d x) := by
  have hd := dec32 h
  unfold FP.f2d
  have : FP.Core.fIsNaN x = false := by
    unfold FP.Core.fIsNaN FP.Core.isNaN
    exact decide_eq_false hd
  rw [this, if_neg (by decide)]
  unfold FP.Core.f2d FP.Core.convert
  refine nn64_of ?_
  cases hx : FP.Core.decode FP.Core.b32 x.toNat with
  | nan => exact (hd hx).elim
  | inf s => trivial
  | fin s c q => exact okD_b64 _ _ _ _
theorem order_r {d : FP.Core.Datum} (h : d ≠ .nan) : FP.Core.order d d = some .eq := by
  cases d with
  | nan => exact (h rfl).elim
  | inf s => cases s <;> rfl
  | fin s c q =>
    unfold FP.Core.order
    dsimp only
    congr 1
    simp [compare, compareOfLessAndEq]
theorem dcmp_r {x : UInt64} (h : nn64 x) : Op.cmpValue (FP.dcmp x x) .l = 0 := by
  have : FP.dcmp x x = some .eq := order_r (dec64 h)
  rw [this]
  rfl
