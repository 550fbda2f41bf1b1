theorem s_l : ∀ n, n < 32 → ((nI n &&& 31).toBitVec.smod 32).toNat = n := by decide +kernel
theorem nx_and (a b : Nat) : nI a &&& nI b = nI (a &&& b) := by
  apply Int32.toBitVec_inj.1
  show BitVec.ofNat 32 a &&& BitVec.ofNat 32 b = BitVec.ofNat 32 (a &&& b)
  apply BitVec.eq_of_getLsbD_eq
  intro i hi
  simp [hi]
theorem nx_xor (a b : Nat) : nI a ^^^ nI b = nI (a ^^^ b) := by
  apply Int32.toBitVec_inj.1
  show BitVec.ofNat 32 a ^^^ BitVec.ofNat 32 b = BitVec.ofNat 32 (a ^^^ b)
  apply BitVec.eq_of_getLsbD_eq
  intro i hi
  simp [hi]
theorem wb_tb (n : Nat) : (lN n).toBitVec = BitVec.ofNat 64 n := rfl
theorem wb_inj {a b : Int64} (h : a.toBitVec = b.toBitVec) : a = b := Int64.toBitVec_inj.mp h
theorem wb_tn {n : Nat} (h : n < 2 ^ 64) : (lN n).toBitVec.toNat = n := by rw [wb_tb, BitVec.toNat_ofNat, Nat.mod_eq_of_lt h]
theorem wb_of (x : Int64) : ∃ n, n < 2 ^ 64 ∧ x = lN n := ⟨x.toBitVec.toNat, x.toBitVec.isLt, wb_inj (by rw [wb_tb]; simp)⟩
theorem wb_of32 (x : Int32) : ∃ n, n < 2 ^ 32 ∧ x = nI n := ⟨x.toBitVec.toNat, x.toBitVec.isLt, Int32.toBitVec_inj.mp (by show _ = BitVec.ofNat 32 _; simp)⟩
theorem wb_c : ∀ k, k < 64 → ((nI k).toInt64 &&& 63) = lN k := by decide +kernel
theorem wb_cu : ∀ k, k < 64 → ((nI k).toInt64.toUInt64 &&& Int64.toUInt64 63) = UInt64.ofNat k := by decide +kernel
theorem wb_sm : ∀ k, k < 64 → (BitVec.ofNat 64 k).smod 64 = BitVec.ofNat 64 k := by decide +kernel
theorem wb_pw {a b : Nat} (h : a ≤ b) : 2 ^ b = 2 ^ a * 2 ^ (b - a) := by rw [← Nat.pow_add]; congr 1; omega
theorem wb_lt2 {a b : Nat} (h : a < b) : 2 ^ a < 2 ^ b := Nat.pow_lt_pow_right (by decide) h
theorem wb_mod (n : Nat) : lN n = lN (n % 2 ^ 64) := wb_inj (by rw [wb_tb, wb_tb]; apply BitVec.eq_of_toNat_eq; rw [BitVec.toNat_ofNat, BitVec.toNat_ofNat, Nat.mod_mod])
theorem wb_shr {n k : Nat} (hn : n < 2 ^ 64) (hk : k < 64) : ((lN n).toUInt64 >>> ((nI k).toInt64.toUInt64 &&& Int64.toUInt64 63)).toInt64 = lN (n / 2 ^ k) := by
  rw [wb_cu k hk]
  apply wb_inj
  apply BitVec.eq_of_toNat_eq
  show ((lN n).toUInt64 >>> UInt64.ofNat k).toNat = (BitVec.ofNat 64 _).toNat
  have h1 : (UInt64.ofNat k).toNat = k := by
    show (BitVec.ofNat 64 k).toNat = k
    rw [BitVec.toNat_ofNat, Nat.mod_eq_of_lt (by omega)]
  have h2 : (lN n).toUInt64.toNat = n := wb_tn hn
  rw [UInt64.toNat_shiftRight, h1, h2, Nat.mod_eq_of_lt hk, Nat.shiftRight_eq_div_pow, BitVec.toNat_ofNat, Nat.mod_eq_of_lt (Nat.lt_of_le_of_lt (Nat.div_le_self _ _) hn)]
theorem wb_shl (n : Nat) {k : Nat} (hk : k < 64) : lN n <<< ((nI k).toInt64 &&& 63) = lN (n * 2 ^ k) := by
  rw [wb_c k hk]
  apply wb_inj
  rw [Int64.toBitVec_shiftLeft, wb_tb, wb_tb, wb_tb, wb_sm k hk]
  apply BitVec.eq_of_toNat_eq
  rw [BitVec.shiftLeft_eq', BitVec.toNat_shiftLeft, BitVec.toNat_ofNat, BitVec.toNat_ofNat, BitVec.toNat_ofNat, Nat.mod_eq_of_lt (show k < 2 ^ 64 by omega), Nat.shiftLeft_eq, Nat.mul_mod, Nat.mod_mod, ← Nat.mul_mod]
theorem wb_and {a b : Nat} (ha : a < 2 ^ 64) (hb : b < 2 ^ 64) : lN a &&& lN b = lN (a &&& b) := by
  apply wb_inj
  rw [Int64.toBitVec_and, wb_tb, wb_tb, wb_tb]
  apply BitVec.eq_of_toNat_eq
  rw [BitVec.toNat_and, BitVec.toNat_ofNat, BitVec.toNat_ofNat, BitVec.toNat_ofNat, Nat.mod_eq_of_lt ha, Nat.mod_eq_of_lt hb, Nat.mod_eq_of_lt (Nat.and_lt_two_pow _ hb)]
theorem wb_or {a b : Nat} (ha : a < 2 ^ 64) (hb : b < 2 ^ 64) : lN a ||| lN b = lN (a ||| b) := by
  apply wb_inj
  rw [Int64.toBitVec_or, wb_tb, wb_tb, wb_tb]
  apply BitVec.eq_of_toNat_eq
  rw [BitVec.toNat_or, BitVec.toNat_ofNat, BitVec.toNat_ofNat, BitVec.toNat_ofNat, Nat.mod_eq_of_lt ha, Nat.mod_eq_of_lt hb, Nat.mod_eq_of_lt (Nat.or_lt_two_pow ha hb)]
theorem wb_mask {n k : Nat} (hn : n < 2 ^ 64) (hk : k < 64) : lN n &&& lN (2 ^ k - 1) = lN (n % 2 ^ k) := by
  rw [wb_and hn (by have := wb_lt2 hk; omega), Nat.and_two_pow_sub_one_eq_mod]
theorem wb_a1 {n : Nat} (hn : n < 2 ^ 64) : lN n &&& 1 = lN (n % 2) := wb_mask (k := 1) hn (by decide)
theorem lq1_run {α0 ρ : Type} {body : (α0 → Option ρ) → α0 → Option ρ} (Good : Option ρ → Prop) (N : Nat) (St : Nat → α0 → Prop) (hs : ∀ (i : Nat) (x0 : α0) (again : α0 → Option ρ), i < N → St i x0 → Good (body again x0) ∨ ∃ (y0 : α0), St (i + 1) y0 ∧ body again x0 = again y0) (hf : ∀ (x0 : α0) (again : α0 → Option ρ), St N x0 → Good (body again x0)) : ∀ (n i : Nat) (x0 : α0), i ≤ N → N < i + n → St i x0 → Good (lq1 body n x0) := by
  intro n
  induction n with
  | zero => intro i x0 h1 h2; omega
  | succ n ih =>
    intro i x0 h1 h2 h3
    rw [lq1_s]
    rcases Nat.lt_or_ge i N with h | h
    · rcases hs i x0 (lq1 body n) h h3 with g | ⟨y0, g1, g2⟩
      · exact g
      · rw [g2]; exact ih (i + 1) y0 (by omega) (by omega) g1
    · have hi : i = N := by omega
      subst hi
      exact hf x0 _ h3
theorem lq2_run {α0 α1 ρ : Type} {body : (α0 → α1 → Option ρ) → α0 → α1 → Option ρ} (Good : Option ρ → Prop) (N : Nat) (St : Nat → α0 → α1 → Prop) (hs : ∀ (i : Nat) (x0 : α0) (x1 : α1) (again : α0 → α1 → Option ρ), i < N → St i x0 x1 → Good (body again x0 x1) ∨ ∃ (y0 : α0) (y1 : α1), St (i + 1) y0 y1 ∧ body again x0 x1 = again y0 y1) (hf : ∀ (x0 : α0) (x1 : α1) (again : α0 → α1 → Option ρ), St N x0 x1 → Good (body again x0 x1)) : ∀ (n i : Nat) (x0 : α0) (x1 : α1), i ≤ N → N < i + n → St i x0 x1 → Good (lq2 body n x0 x1) := by
  intro n
  induction n with
  | zero => intro i x0 x1 h1 h2; omega
  | succ n ih =>
    intro i x0 x1 h1 h2 h3
    rw [lq2_s]
    rcases Nat.lt_or_ge i N with h | h
    · rcases hs i x0 x1 (lq2 body n) h h3 with g | ⟨y0, y1, g1, g2⟩
      · exact g
      · rw [g2]; exact ih (i + 1) y0 y1 (by omega) (by omega) g1
    · have hi : i = N := by omega
      subst hi
      exact hf x0 x1 _ h3
theorem lq3_run {α0 α1 α2 ρ : Type} {body : (α0 → α1 → α2 → Option ρ) → α0 → α1 → α2 → Option ρ} (Good : Option ρ → Prop) (N : Nat) (St : Nat → α0 → α1 → α2 → Prop) (hs : ∀ (i : Nat) (x0 : α0) (x1 : α1) (x2 : α2) (again : α0 → α1 → α2 → Option ρ), i < N → St i x0 x1 x2 → Good (body again x0 x1 x2) ∨ ∃ (y0 : α0) (y1 : α1) (y2 : α2), St (i + 1) y0 y1 y2 ∧ body again x0 x1 x2 = again y0 y1 y2) (hf : ∀ (x0 : α0) (x1 : α1) (x2 : α2) (again : α0 → α1 → α2 → Option ρ), St N x0 x1 x2 → Good (body again x0 x1 x2)) : ∀ (n i : Nat) (x0 : α0) (x1 : α1) (x2 : α2), i ≤ N → N < i + n → St i x0 x1 x2 → Good (lq3 body n x0 x1 x2) := by
  intro n
  induction n with
  | zero => intro i x0 x1 x2 h1 h2; omega
  | succ n ih =>
    intro i x0 x1 x2 h1 h2 h3
    rw [lq3_s]
    rcases Nat.lt_or_ge i N with h | h
    · rcases hs i x0 x1 x2 (lq3 body n) h h3 with g | ⟨y0, y1, y2, g1, g2⟩
      · exact g
      · rw [g2]; exact ih (i + 1) y0 y1 y2 (by omega) (by omega) g1
    · have hi : i = N := by omega
      subst hi
      exact hf x0 x1 x2 _ h3
theorem lq4_run {α0 α1 α2 α3 ρ : Type} {body : (α0 → α1 → α2 → α3 → Option ρ) → α0 → α1 → α2 → α3 → Option ρ} (Good : Option ρ → Prop) (N : Nat) (St : Nat → α0 → α1 → α2 → α3 → Prop) (hs : ∀ (i : Nat) (x0 : α0) (x1 : α1) (x2 : α2) (x3 : α3) (again : α0 → α1 → α2 → α3 → Option ρ), i < N → St i x0 x1 x2 x3 → Good (body again x0 x1 x2 x3) ∨ ∃ (y0 : α0) (y1 : α1) (y2 : α2) (y3 : α3), St (i + 1) y0 y1 y2 y3 ∧ body again x0 x1 x2 x3 = again y0 y1 y2 y3) (hf : ∀ (x0 : α0) (x1 : α1) (x2 : α2) (x3 : α3) (again : α0 → α1 → α2 → α3 → Option ρ), St N x0 x1 x2 x3 → Good (body again x0 x1 x2 x3)) : ∀ (n i : Nat) (x0 : α0) (x1 : α1) (x2 : α2) (x3 : α3), i ≤ N → N < i + n → St i x0 x1 x2 x3 → Good (lq4 body n x0 x1 x2 x3) := by
  intro n
  induction n with
  | zero => intro i x0 x1 x2 x3 h1 h2; omega
  | succ n ih =>
    intro i x0 x1 x2 x3 h1 h2 h3
    rw [lq4_s]
    rcases Nat.lt_or_ge i N with h | h
    · rcases hs i x0 x1 x2 x3 (lq4 body n) h h3 with g | ⟨y0, y1, y2, y3, g1, g2⟩
      · exact g
      · rw [g2]; exact ih (i + 1) y0 y1 y2 y3 (by omega) (by omega) g1
    · have hi : i = N := by omega
      subst hi
      exact hf x0 x1 x2 x3 _ h3
theorem lq5_run {α0 α1 α2 α3 α4 ρ : Type} {body : (α0 → α1 → α2 → α3 → α4 → Option ρ) → α0 → α1 → α2 → α3 → α4 → Option ρ} (Good : Option ρ → Prop) (N : Nat) (St : Nat → α0 → α1 → α2 → α3 → α4 → Prop) (hs : ∀ (i : Nat) (x0 : α0) (x1 : α1) (x2 : α2) (x3 : α3) (x4 : α4) (again : α0 → α1 → α2 → α3 → α4 → Option ρ), i < N → St i x0 x1 x2 x3 x4 → Good (body again x0 x1 x2 x3 x4) ∨ ∃ (y0 : α0) (y1 : α1) (y2 : α2) (y3 : α3) (y4 : α4), St (i + 1) y0 y1 y2 y3 y4 ∧ body again x0 x1 x2 x3 x4 = again y0 y1 y2 y3 y4) (hf : ∀ (x0 : α0) (x1 : α1) (x2 : α2) (x3 : α3) (x4 : α4) (again : α0 → α1 → α2 → α3 → α4 → Option ρ), St N x0 x1 x2 x3 x4 → Good (body again x0 x1 x2 x3 x4)) : ∀ (n i : Nat) (x0 : α0) (x1 : α1) (x2 : α2) (x3 : α3) (x4 : α4), i ≤ N → N < i + n → St i x0 x1 x2 x3 x4 → Good (lq5 body n x0 x1 x2 x3 x4) := by
  intro n
  induction n with
  | zero => intro i x0 x1 x2 x3 x4 h1 h2; omega
  | succ n ih =>
    intro i x0 x1 x2 x3 x4 h1 h2 h3
    rw [lq5_s]
    rcases Nat.lt_or_ge i N with h | h
    · rcases hs i x0 x1 x2 x3 x4 (lq5 body n) h h3 with g | ⟨y0, y1, y2, y3, y4, g1, g2⟩
      · exact g
      · rw [g2]; exact ih (i + 1) y0 y1 y2 y3 y4 (by omega) (by omega) g1
    · have hi : i = N := by omega
      subst hi
      exact hf x0 x1 x2 x3 x4 _ h3
theorem lq6_run {α0 α1 α2 α3 α4 α5 ρ : Type} {body : (α0 → α1 → α2 → α3 → α4 → α5 → Option ρ) → α0 → α1 → α2 → α3 → α4 → α5 → Option ρ} (Good : Option ρ → Prop) (N : Nat) (St : Nat → α0 → α1 → α2 → α3 → α4 → α5 → Prop) (hs : ∀ (i : Nat) (x0 : α0) (x1 : α1) (x2 : α2) (x3 : α3) (x4 : α4) (x5 : α5) (again : α0 → α1 → α2 → α3 → α4 → α5 → Option ρ), i < N → St i x0 x1 x2 x3 x4 x5 → Good (body again x0 x1 x2 x3 x4 x5) ∨ ∃ (y0 : α0) (y1 : α1) (y2 : α2) (y3 : α3) (y4 : α4) (y5 : α5), St (i + 1) y0 y1 y2 y3 y4 y5 ∧ body again x0 x1 x2 x3 x4 x5 = again y0 y1 y2 y3 y4 y5) (hf : ∀ (x0 : α0) (x1 : α1) (x2 : α2) (x3 : α3) (x4 : α4) (x5 : α5) (again : α0 → α1 → α2 → α3 → α4 → α5 → Option ρ), St N x0 x1 x2 x3 x4 x5 → Good (body again x0 x1 x2 x3 x4 x5)) : ∀ (n i : Nat) (x0 : α0) (x1 : α1) (x2 : α2) (x3 : α3) (x4 : α4) (x5 : α5), i ≤ N → N < i + n → St i x0 x1 x2 x3 x4 x5 → Good (lq6 body n x0 x1 x2 x3 x4 x5) := by
  intro n
  induction n with
  | zero => intro i x0 x1 x2 x3 x4 x5 h1 h2; omega
  | succ n ih =>
    intro i x0 x1 x2 x3 x4 x5 h1 h2 h3
    rw [lq6_s]
    rcases Nat.lt_or_ge i N with h | h
    · rcases hs i x0 x1 x2 x3 x4 x5 (lq6 body n) h h3 with g | ⟨y0, y1, y2, y3, y4, y5, g1, g2⟩
      · exact g
      · rw [g2]; exact ih (i + 1) y0 y1 y2 y3 y4 y5 (by omega) (by omega) g1
    · have hi : i = N := by omega
      subst hi
      exact hf x0 x1 x2 x3 x4 x5 _ h3
theorem lq7_run {α0 α1 α2 α3 α4 α5 α6 ρ : Type} {body : (α0 → α1 → α2 → α3 → α4 → α5 → α6 → Option ρ) → α0 → α1 → α2 → α3 → α4 → α5 → α6 → Option ρ} (Good : Option ρ → Prop) (N : Nat) (St : Nat → α0 → α1 → α2 → α3 → α4 → α5 → α6 → Prop) (hs : ∀ (i : Nat) (x0 : α0) (x1 : α1) (x2 : α2) (x3 : α3) (x4 : α4) (x5 : α5) (x6 : α6) (again : α0 → α1 → α2 → α3 → α4 → α5 → α6 → Option ρ), i < N → St i x0 x1 x2 x3 x4 x5 x6 → Good (body again x0 x1 x2 x3 x4 x5 x6) ∨ ∃ (y0 : α0) (y1 : α1) (y2 : α2) (y3 : α3) (y4 : α4) (y5 : α5) (y6 : α6), St (i + 1) y0 y1 y2 y3 y4 y5 y6 ∧ body again x0 x1 x2 x3 x4 x5 x6 = again y0 y1 y2 y3 y4 y5 y6) (hf : ∀ (x0 : α0) (x1 : α1) (x2 : α2) (x3 : α3) (x4 : α4) (x5 : α5) (x6 : α6) (again : α0 → α1 → α2 → α3 → α4 → α5 → α6 → Option ρ), St N x0 x1 x2 x3 x4 x5 x6 → Good (body again x0 x1 x2 x3 x4 x5 x6)) : ∀ (n i : Nat) (x0 : α0) (x1 : α1) (x2 : α2) (x3 : α3) (x4 : α4) (x5 : α5) (x6 : α6), i ≤ N → N < i + n → St i x0 x1 x2 x3 x4 x5 x6 → Good (lq7 body n x0 x1 x2 x3 x4 x5 x6) := by
  intro n
  induction n with
  | zero => intro i x0 x1 x2 x3 x4 x5 x6 h1 h2; omega
  | succ n ih =>
    intro i x0 x1 x2 x3 x4 x5 x6 h1 h2 h3
    rw [lq7_s]
    rcases Nat.lt_or_ge i N with h | h
    · rcases hs i x0 x1 x2 x3 x4 x5 x6 (lq7 body n) h h3 with g | ⟨y0, y1, y2, y3, y4, y5, y6, g1, g2⟩
      · exact g
      · rw [g2]; exact ih (i + 1) y0 y1 y2 y3 y4 y5 y6 (by omega) (by omega) g1
    · have hi : i = N := by omega
      subst hi
      exact hf x0 x1 x2 x3 x4 x5 x6 _ h3
theorem lq8_run {α0 α1 α2 α3 α4 α5 α6 α7 ρ : Type} {body : (α0 → α1 → α2 → α3 → α4 → α5 → α6 → α7 → Option ρ) → α0 → α1 → α2 → α3 → α4 → α5 → α6 → α7 → Option ρ} (Good : Option ρ → Prop) (N : Nat) (St : Nat → α0 → α1 → α2 → α3 → α4 → α5 → α6 → α7 → Prop) (hs : ∀ (i : Nat) (x0 : α0) (x1 : α1) (x2 : α2) (x3 : α3) (x4 : α4) (x5 : α5) (x6 : α6) (x7 : α7) (again : α0 → α1 → α2 → α3 → α4 → α5 → α6 → α7 → Option ρ), i < N → St i x0 x1 x2 x3 x4 x5 x6 x7 → Good (body again x0 x1 x2 x3 x4 x5 x6 x7) ∨ ∃ (y0 : α0) (y1 : α1) (y2 : α2) (y3 : α3) (y4 : α4) (y5 : α5) (y6 : α6) (y7 : α7), St (i + 1) y0 y1 y2 y3 y4 y5 y6 y7 ∧ body again x0 x1 x2 x3 x4 x5 x6 x7 = again y0 y1 y2 y3 y4 y5 y6 y7) (hf : ∀ (x0 : α0) (x1 : α1) (x2 : α2) (x3 : α3) (x4 : α4) (x5 : α5) (x6 : α6) (x7 : α7) (again : α0 → α1 → α2 → α3 → α4 → α5 → α6 → α7 → Option ρ), St N x0 x1 x2 x3 x4 x5 x6 x7 → Good (body again x0 x1 x2 x3 x4 x5 x6 x7)) : ∀ (n i : Nat) (x0 : α0) (x1 : α1) (x2 : α2) (x3 : α3) (x4 : α4) (x5 : α5) (x6 : α6) (x7 : α7), i ≤ N → N < i + n → St i x0 x1 x2 x3 x4 x5 x6 x7 → Good (lq8 body n x0 x1 x2 x3 x4 x5 x6 x7) := by
  intro n
  induction n with
  | zero => intro i x0 x1 x2 x3 x4 x5 x6 x7 h1 h2; omega
  | succ n ih =>
    intro i x0 x1 x2 x3 x4 x5 x6 x7 h1 h2 h3
    rw [lq8_s]
    rcases Nat.lt_or_ge i N with h | h
    · rcases hs i x0 x1 x2 x3 x4 x5 x6 x7 (lq8 body n) h h3 with g | ⟨y0, y1, y2, y3, y4, y5, y6, y7, g1, g2⟩
      · exact g
      · rw [g2]; exact ih (i + 1) y0 y1 y2 y3 y4 y5 y6 y7 (by omega) (by omega) g1
    · have hi : i = N := by omega
      subst hi
      exact hf x0 x1 x2 x3 x4 x5 x6 x7 _ h3
theorem lq9_run {α0 α1 α2 α3 α4 α5 α6 α7 α8 ρ : Type} {body : (α0 → α1 → α2 → α3 → α4 → α5 → α6 → α7 → α8 → Option ρ) → α0 → α1 → α2 → α3 → α4 → α5 → α6 → α7 → α8 → Option ρ} (Good : Option ρ → Prop) (N : Nat) (St : Nat → α0 → α1 → α2 → α3 → α4 → α5 → α6 → α7 → α8 → Prop) (hs : ∀ (i : Nat) (x0 : α0) (x1 : α1) (x2 : α2) (x3 : α3) (x4 : α4) (x5 : α5) (x6 : α6) (x7 : α7) (x8 : α8) (again : α0 → α1 → α2 → α3 → α4 → α5 → α6 → α7 → α8 → Option ρ), i < N → St i x0 x1 x2 x3 x4 x5 x6 x7 x8 → Good (body again x0 x1 x2 x3 x4 x5 x6 x7 x8) ∨ ∃ (y0 : α0) (y1 : α1) (y2 : α2) (y3 : α3) (y4 : α4) (y5 : α5) (y6 : α6) (y7 : α7) (y8 : α8), St (i + 1) y0 y1 y2 y3 y4 y5 y6 y7 y8 ∧ body again x0 x1 x2 x3 x4 x5 x6 x7 x8 = again y0 y1 y2 y3 y4 y5 y6 y7 y8) (hf : ∀ (x0 : α0) (x1 : α1) (x2 : α2) (x3 : α3) (x4 : α4) (x5 : α5) (x6 : α6) (x7 : α7) (x8 : α8) (again : α0 → α1 → α2 → α3 → α4 → α5 → α6 → α7 → α8 → Option ρ), St N x0 x1 x2 x3 x4 x5 x6 x7 x8 → Good (body again x0 x1 x2 x3 x4 x5 x6 x7 x8)) : ∀ (n i : Nat) (x0 : α0) (x1 : α1) (x2 : α2) (x3 : α3) (x4 : α4) (x5 : α5) (x6 : α6) (x7 : α7) (x8 : α8), i ≤ N → N < i + n → St i x0 x1 x2 x3 x4 x5 x6 x7 x8 → Good (lq9 body n x0 x1 x2 x3 x4 x5 x6 x7 x8) := by
  intro n
  induction n with
  | zero => intro i x0 x1 x2 x3 x4 x5 x6 x7 x8 h1 h2; omega
  | succ n ih =>
    intro i x0 x1 x2 x3 x4 x5 x6 x7 x8 h1 h2 h3
    rw [lq9_s]
    rcases Nat.lt_or_ge i N with h | h
    · rcases hs i x0 x1 x2 x3 x4 x5 x6 x7 x8 (lq9 body n) h h3 with g | ⟨y0, y1, y2, y3, y4, y5, y6, y7, y8, g1, g2⟩
      · exact g
      · rw [g2]; exact ih (i + 1) y0 y1 y2 y3 y4 y5 y6 y7 y8 (by omega) (by omega) g1
    · have hi : i = N := by omega
      subst hi
      exact hf x0 x1 x2 x3 x4 x5 x6 x7 x8 _ h3
theorem lq10_run {α0 α1 α2 α3 α4 α5 α6 α7 α8 α9 ρ : Type} {body : (α0 → α1 → α2 → α3 → α4 → α5 → α6 → α7 → α8 → α9 → Option ρ) → α0 → α1 → α2 → α3 → α4 → α5 → α6 → α7 → α8 → α9 → Option ρ} (Good : Option ρ → Prop) (N : Nat) (St : Nat → α0 → α1 → α2 → α3 → α4 → α5 → α6 → α7 → α8 → α9 → Prop) (hs : ∀ (i : Nat) (x0 : α0) (x1 : α1) (x2 : α2) (x3 : α3) (x4 : α4) (x5 : α5) (x6 : α6) (x7 : α7) (x8 : α8) (x9 : α9) (again : α0 → α1 → α2 → α3 → α4 → α5 → α6 → α7 → α8 → α9 → Option ρ), i < N → St i x0 x1 x2 x3 x4 x5 x6 x7 x8 x9 → Good (body again x0 x1 x2 x3 x4 x5 x6 x7 x8 x9) ∨ ∃ (y0 : α0) (y1 : α1) (y2 : α2) (y3 : α3) (y4 : α4) (y5 : α5) (y6 : α6) (y7 : α7) (y8 : α8) (y9 : α9), St (i + 1) y0 y1 y2 y3 y4 y5 y6 y7 y8 y9 ∧ body again x0 x1 x2 x3 x4 x5 x6 x7 x8 x9 = again y0 y1 y2 y3 y4 y5 y6 y7 y8 y9) (hf : ∀ (x0 : α0) (x1 : α1) (x2 : α2) (x3 : α3) (x4 : α4) (x5 : α5) (x6 : α6) (x7 : α7) (x8 : α8) (x9 : α9) (again : α0 → α1 → α2 → α3 → α4 → α5 → α6 → α7 → α8 → α9 → Option ρ), St N x0 x1 x2 x3 x4 x5 x6 x7 x8 x9 → Good (body again x0 x1 x2 x3 x4 x5 x6 x7 x8 x9)) : ∀ (n i : Nat) (x0 : α0) (x1 : α1) (x2 : α2) (x3 : α3) (x4 : α4) (x5 : α5) (x6 : α6) (x7 : α7) (x8 : α8) (x9 : α9), i ≤ N → N < i + n → St i x0 x1 x2 x3 x4 x5 x6 x7 x8 x9 → Good (lq10 body n x0 x1 x2 x3 x4 x5 x6 x7 x8 x9) := by
  intro n
  induction n with
  | zero => intro i x0 x1 x2 x3 x4 x5 x6 x7 x8 x9 h1 h2; omega
  | succ n ih =>
    intro i x0 x1 x2 x3 x4 x5 x6 x7 x8 x9 h1 h2 h3
    rw [lq10_s]
    rcases Nat.lt_or_ge i N with h | h
    · rcases hs i x0 x1 x2 x3 x4 x5 x6 x7 x8 x9 (lq10 body n) h h3 with g | ⟨y0, y1, y2, y3, y4, y5, y6, y7, y8, y9, g1, g2⟩
      · exact g
      · rw [g2]; exact ih (i + 1) y0 y1 y2 y3 y4 y5 y6 y7 y8 y9 (by omega) (by omega) g1
    · have hi : i = N := by omega
      subst hi
      exact hf x0 x1 x2 x3 x4 x5 x6 x7 x8 x9 _ h3
/-! literals, and the arithmetic of nI -/
theorem L0 : (0 : Int32) = nI 0 := rfl
theorem L1 : (1 : Int32) = nI 1 := rfl
theorem L2 : (2 : Int32) = nI 2 := rfl
theorem L3 : (3 : Int32) = nI 3 := rfl
theorem L4 : (4 : Int32) = nI 4 := rfl
theorem L5 : (5 : Int32) = nI 5 := rfl
theorem L6 : (6 : Int32) = nI 6 := rfl
theorem L7 : (7 : Int32) = nI 7 := rfl
theorem L8 : (8 : Int32) = nI 8 := rfl
theorem L9 : (9 : Int32) = nI 9 := rfl
theorem L10 : (10 : Int32) = nI 10 := rfl
theorem L30 : (30 : Int32) = nI 30 := rfl
theorem L31 : (31 : Int32) = nI 31 := rfl
theorem L48 : (48 : Int32) = nI 48 := rfl
theorem L59 : (59 : Int32) = nI 59 := rfl
theorem L60 : (60 : Int32) = nI 60 := rfl
theorem L63 : (63 : Int32) = nI 63 := rfl
theorem L64 : (64 : Int32) = nI 64 := rfl
theorem L126 : (126 : Int32) = nI 126 := rfl
theorem L127 : (127 : Int32) = nI 127 := rfl
theorem L65536 : (65536 : Int32) = nI 65536 := rfl

theorem nI_inj {a b : Nat} (ha : a < 2 ^ 31) (hb : b < 2 ^ 31) (h : nI a = nI b) : a = b := (nI_eq ha hb).mp h
theorem nI_ne {a b : Nat} (ha : a < 2 ^ 31) (hb : b < 2 ^ 31) (h : a ≠ b) : ¬ nI a = nI b := fun e => h (nI_inj ha hb e)
theorem nI_m1 {a : Nat} (ha : a < 2 ^ 31) : ¬ nI a = -1 := fun e => by
  have h : (nI a).toInt = (-1 : Int32).toInt := by rw [e]
  rw [nI_toInt ha] at h
  have : (-1 : Int32).toInt = -1 := by decide
  omega
theorem m1_nI {a : Nat} (ha : a < 2 ^ 31) : ¬ (-1 : Int32) = nI a := fun e => nI_m1 ha e.symm
theorem m1_lt {a : Nat} (ha : a < 2 ^ 31) : (-1 : Int32) < nI a := by
  rw [Int32.lt_iff_toInt_lt, nI_toInt ha]
  have : (-1 : Int32).toInt = -1 := by decide
  omega
theorem shrN {a l : Nat} (ha : a < 2 ^ 31) (hl : l < 32) : nI a >>> (nI l &&& nI 31) = nI (a / 2 ^ l) := pk_shrN ha _ l (s_l l hl)
theorem shlN {a l : Nat} (hl : l < 32) (h : a * 2 ^ l < 2 ^ 32) : nI a <<< (nI l &&& nI 31) = nI (a * 2 ^ l) := pk_shlN _ l (s_l l hl) h
theorem inB_nI {i n : Nat} (h : i < n) (hn : n < 2 ^ 31) : inB (nI i) n = true := by
  simp only [inB, nI_toInt (show i < 2 ^ 31 by omega), Bool.and_eq_true, decide_eq_true_eq]
  omega
theorem rd_nI {S : ST} {k i : Nat} (h : i < 2 ^ 31) : rdA S k (nI i) = stR S k i := by rw [rdA, nI_clamp h]
theorem zB0 : zB (nI 0) = true := rfl
theorem zB1 : zB (nI 1) = true := rfl
/-! reading what was written -/
theorem stI_puI (S : ST) (k j : Nat) (v : Int32) : stI (puI S k v) j = if j = k then v else stI S j := rfl
theorem stI_puR (S : ST) (k j : Nat) (f : Nat → Int32) : stI (puR S k f) j = stI S j := rfl
theorem stI_puL (S : ST) (k j : Nat) (v : Int64) : stI (puL S k v) j = stI S j := rfl
theorem stR_puI (S : ST) (k j : Nat) (v : Int32) : stR (puI S k v) j = stR S j := rfl
theorem stR_puR (S : ST) (k j : Nat) (f : Nat → Int32) : stR (puR S k f) j = if j = k then f else stR S j := rfl
theorem stR_puL (S : ST) (k j : Nat) (v : Int64) : stR (puL S k v) j = stR S j := rfl
theorem stL_puI (S : ST) (k j : Nat) (v : Int32) : stL (puI S k v) j = stL S j := rfl
theorem stL_puR (S : ST) (k j : Nat) (f : Nat → Int32) : stL (puR S k f) j = stL S j := rfl
theorem stL_puL (S : ST) (k j : Nat) (v : Int64) : stL (puL S k v) j = if j = k then v else stL S j := rfl
theorem wr_nI {S : ST} {k i : Nat} {x : Int32} (h : i < 2 ^ 31) : wrA S k (nI i) x = puR S k (upd (stR S k) i x) := by rw [wrA, nI_clamp h]
/-! ranges: the reference's in(..) is the class's within(..) -/
theorem lg_lt0 (x y : Int64) : (lg_cmp x y < 0) ↔ x < y := by
  have h := lg_cmp_ge x y
  rw [← Int32.not_le, h, Int64.not_le]
theorem lg_gt0 (x y : Int64) : (0 < lg_cmp x y) ↔ y < x := by
  unfold lg_cmp
  by_cases h : x > y
  · rw [if_pos h]; exact ⟨fun _ => h, fun _ => by decide⟩
  · rw [if_neg h]
    refine ⟨fun q => ?_, fun q => absurd q h⟩
    split at q
    · exact absurd q (by decide)
    · exact absurd q (by decide)
theorem X7_in (fu : Nat) (x lo hi : Int32) : m_X7_in fu x.toInt64 lo.toInt64 hi.toInt64 = m_X6_within fu x lo hi := by
  unfold m_X7_in m_X6_within
  simp only [lg_lt0, lg_gt0, Int32.toInt64_lt]
theorem wi_cases (fu : Nat) (x lo hi : Int32) : (m_X6_within fu x lo hi = some 0 ∧ ¬ (lo ≤ x ∧ x ≤ hi)) ∨ (m_X6_within fu x lo hi = some 1 ∧ lo ≤ x ∧ x ≤ hi) := by
  unfold m_X6_within
  by_cases h1 : x < lo
  · rw [if_pos h1]; exact Or.inl ⟨rfl, fun h => absurd h1 (Int32.not_lt.mpr h.1)⟩
  · rw [if_neg h1]
    by_cases h2 : hi < x
    · rw [if_pos h2]; exact Or.inl ⟨rfl, fun h => absurd h2 (Int32.not_lt.mpr h.2)⟩
    · rw [if_neg h2]; exact Or.inr ⟨rfl, Int32.not_lt.mp h1, Int32.not_lt.mp h2⟩
theorem nI_rng {x : Int32} {a b : Nat} (ha : a < 2 ^ 31) (hb : b < 2 ^ 31) (h1 : nI a ≤ x) (h2 : x ≤ nI b) : ∃ k, a ≤ k ∧ k ≤ b ∧ x = nI k := by
  rw [Int32.le_iff_toInt_le] at h1 h2
  rw [nI_toInt hb] at h2
  rw [nI_toInt ha] at h1
  refine ⟨x.toInt.toNat, by omega, by omega, Int32.toInt_inj.mp ?_⟩
  rw [nI_toInt (by omega)]
  omega
