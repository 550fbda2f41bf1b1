/-! the shelf: five bytes in a long -/
def enc (c : Nat → Nat) : Nat := c 0 + 256 * (c 1 + 256 * (c 2 + 256 * (c 3 + 256 * c 4)))
def pop (x : Nat) : Nat := x % 2 + x / 2 % 2 + x / 4 % 2 + x / 8 % 2 + x / 16 % 2 + x / 32 % 2
def bitL (x l : Nat) : Nat := x / 2 ^ l % 2
def upc (c : Nat → Nat) (f v : Nat) : Nat → Nat := fun g => if g = f then v else c g
theorem upc_s (c : Nat → Nat) (f v : Nat) : upc c f v f = v := if_pos rfl
theorem upc_n {c : Nat → Nat} {f v g : Nat} (h : g ≠ f) : upc c f v g = c g := if_neg h
theorem land8 {a b : Nat} (A B : Nat) (ha : a < 256) (hb : b < 256) : (a + 256 * A) &&& (b + 256 * B) = (a &&& b) + 256 * (A &&& B) := by
  apply Nat.eq_of_testBit_eq
  intro j
  have h := Nat.and_lt_two_pow a (n := 8) (show b < 2 ^ 8 by omega)
  rw [Nat.testBit_and, show a + 256 * A = 2 ^ 8 * A + a by omega, show b + 256 * B = 2 ^ 8 * B + b by omega, show (a &&& b) + 256 * (A &&& B) = 2 ^ 8 * (A &&& B) + (a &&& b) by omega,
    Nat.testBit_two_pow_mul_add _ (show a < 2 ^ 8 by omega), Nat.testBit_two_pow_mul_add _ (show b < 2 ^ 8 by omega), Nat.testBit_two_pow_mul_add _ h]
  by_cases hj : j < 8
  · rw [if_pos hj, if_pos hj, if_pos hj, Nat.testBit_and]
  · rw [if_neg hj, if_neg hj, if_neg hj, Nat.testBit_and]
theorem lxor8 {a b : Nat} (A B : Nat) (ha : a < 256) (hb : b < 256) : (a + 256 * A) ^^^ (b + 256 * B) = (a ^^^ b) + 256 * (A ^^^ B) := by
  apply Nat.eq_of_testBit_eq
  intro j
  have h := Nat.xor_lt_two_pow (n := 8) (show a < 2 ^ 8 by omega) (show b < 2 ^ 8 by omega)
  rw [Nat.testBit_xor, show a + 256 * A = 2 ^ 8 * A + a by omega, show b + 256 * B = 2 ^ 8 * B + b by omega, show (a ^^^ b) + 256 * (A ^^^ B) = 2 ^ 8 * (A ^^^ B) + (a ^^^ b) by omega,
    Nat.testBit_two_pow_mul_add _ (show a < 2 ^ 8 by omega), Nat.testBit_two_pow_mul_add _ (show b < 2 ^ 8 by omega), Nat.testBit_two_pow_mul_add _ h]
  by_cases hj : j < 8
  · rw [if_pos hj, if_pos hj, if_pos hj, Nat.testBit_xor]
  · rw [if_neg hj, if_neg hj, if_neg hj, Nat.testBit_xor]
theorem lxor64 {a b : Nat} : lN a ^^^ lN b = lN (a ^^^ b) := by
  apply wb_inj
  show BitVec.ofNat 64 a ^^^ BitVec.ofNat 64 b = BitVec.ofNat 64 (a ^^^ b)
  apply BitVec.eq_of_getLsbD_eq
  intro i hi
  simp [hi]
theorem nx_or (a b : Nat) : nI a ||| nI b = nI (a ||| b) := by
  apply Int32.toBitVec_inj.1
  show BitVec.ofNat 32 a ||| BitVec.ofNat 32 b = BitVec.ofNat 32 (a ||| b)
  apply BitVec.eq_of_getLsbD_eq
  intro i hi
  simp [hi]
theorem enc_lt {c : Nat → Nat} (h : ∀ f, f < 5 → c f < 256) : enc c < 2 ^ 40 := by
  have h0 := h 0 (by omega); have h1 := h 1 (by omega); have h2 := h 2 (by omega); have h3 := h 3 (by omega); have h4 := h 4 (by omega)
  unfold enc
  omega
theorem enc_and {c : Nat → Nat} (h : ∀ f, f < 5 → c f < 256) {m0 m1 m2 m3 m4 M : Nat} (q0 : m0 < 256) (q1 : m1 < 256) (q2 : m2 < 256) (q3 : m3 < 256) (q4 : m4 < 256) : enc c &&& (m0 + 256 * (m1 + 256 * (m2 + 256 * (m3 + 256 * (m4 + 256 * M))))) = (c 0 &&& m0) + 256 * ((c 1 &&& m1) + 256 * ((c 2 &&& m2) + 256 * ((c 3 &&& m3) + 256 * (c 4 &&& m4)))) := by
  unfold enc
  rw [show c 4 = c 4 + 256 * 0 by omega, land8 _ _ (h 0 (by omega)) q0, land8 _ _ (h 1 (by omega)) q1, land8 _ _ (h 2 (by omega)) q2, land8 _ _ (h 3 (by omega)) q3, land8 _ _ (h 4 (by omega)) q4, Nat.zero_and]
  simp only [Nat.mul_zero, Nat.add_zero]
theorem enc_xor {c : Nat → Nat} (h : ∀ f, f < 5 → c f < 256) {m0 m1 m2 m3 m4 : Nat} (q0 : m0 < 256) (q1 : m1 < 256) (q2 : m2 < 256) (q3 : m3 < 256) (q4 : m4 < 256) : enc c ^^^ (m0 + 256 * (m1 + 256 * (m2 + 256 * (m3 + 256 * m4)))) = (c 0 ^^^ m0) + 256 * ((c 1 ^^^ m1) + 256 * ((c 2 ^^^ m2) + 256 * ((c 3 ^^^ m3) + 256 * (c 4 ^^^ m4)))) := by
  unfold enc
  rw [show c 4 = c 4 + 256 * 0 by omega, show m4 = m4 + 256 * 0 by omega, lxor8 _ _ (h 0 (by omega)) q0, lxor8 _ _ (h 1 (by omega)) q1, lxor8 _ _ (h 2 (by omega)) q2, lxor8 _ _ (h 3 (by omega)) q3, lxor8 _ _ (h 4 (by omega)) q4, Nat.xor_self]
/-! counting bits, a byte at a time -/
theorem pc_1 : ∀ d, d < 64 → ∀ b, b < 2 → ((d / 2 + 128 * b) &&& 85) = ((d / 2) &&& 85) ∧ ((d / 2) &&& 85) ≤ d ∧ d - ((d / 2) &&& 85) < 64 := by decide +kernel
theorem pc_2 : ∀ u, u < 64 → ∀ b, b < 4 → ((u / 4 + 64 * b) &&& 51) = ((u / 4) &&& 51) ∧ (u &&& 51) + ((u / 4) &&& 51) < 103 := by decide +kernel
theorem pc_3 : ∀ v, v < 103 → ∀ b, b < 16 → v % 16 ≤ 7 → ((v + (v / 16 + 16 * b)) &&& 15) = (v + v / 16) % 16 := by decide +kernel
def pcf (d : Nat) : Nat := (fun u => (u &&& 51) + ((u / 4) &&& 51)) (d - ((d / 2) &&& 85))
theorem pc_f : ∀ d, d < 64 → pcf d % 16 ≤ 7 ∧ (pcf d + pcf d / 16) % 16 = pop d ∧ pcf d < 103 ∧ pop d ≤ 6 ∧ pcf d + pcf d / 16 + 16 * 7 < 256 := by decide +kernel
theorem pc_end {p0 p1 p2 p3 p4 : Nat} (h0 : p0 ≤ 6) (h1 : p1 ≤ 6) (h2 : p2 ≤ 6) (h3 : p3 ≤ 6) (h4 : p4 ≤ 6) {y3 y4 y5 : Nat} (e3 : y3 = p0 + 256 * (p1 + 256 * (p2 + 256 * (p3 + 256 * p4)))) (e4 : y4 = y3 + y3 / 256) (e5 : y5 = y4 + y4 / 65536) : (y5 + y5 / 4294967296) % 128 = p0 + p1 + p2 + p3 + p4 := by
  have a3 : y3 / 256 = p1 + 256 * (p2 + 256 * (p3 + 256 * p4)) := by omega
  have a4 : y4 = (p0 + p1) + 256 * ((p1 + p2) + 256 * ((p2 + p3) + 256 * ((p3 + p4) + 256 * p4))) := by omega
  have b4 : y4 / 65536 = (p2 + p3) + 256 * ((p3 + p4) + 256 * p4) := by clear a3 e4 e3 e5; omega
  have a5 : y5 = (p0 + p1 + p2 + p3) + 256 * ((p1 + p2 + p3 + p4) + 256 * ((p2 + p3 + p4) + 256 * ((p3 + p4) + 256 * p4))) := by clear a3 e4 e3; omega
  have b5 : y5 / 4294967296 = p4 := by clear a3 e4 e3 e5 a4 b4; omega
  rw [b5]
  clear a3 e4 e3 e5 a4 b4 b5
  omega
theorem bitCount64 (fu : Nat) {d : Nat → Nat} (h : ∀ f, f < 5 → d f < 64) : m_J13_bitCount_95d88 fu (lN (enc d)) = some (nI (pop (d 0) + pop (d 1) + pop (d 2) + pop (d 3) + pop (d 4))) := by
  have h0 := h 0 (by omega); have h1 := h 1 (by omega); have h2 := h 2 (by omega); have h3 := h 3 (by omega); have h4 := h 4 (by omega)
  have hx : enc d < 2 ^ 40 := enc_lt (fun f hf => by have := h f hf; omega)
  unfold m_J13_bitCount_95d88
  simp only [nm]
  -- step 1
  have e1 : ((lN (enc d)).toUInt64 >>> ((1 : Int32).toInt64.toUInt64 &&& Int64.toUInt64 63)).toInt64 = lN (enc d / 2) := wb_shr (k := 1) (by omega) (by decide)
  have s1 : enc d / 2 = enc (fun i => d i / 2 + 128 * (if i < 4 then d (i + 1) % 2 else 0)) := by
    simp only [enc]; simp; omega
  have a1 : enc d / 2 &&& 6148914691236517205 = enc (fun i => (d i / 2) &&& 85) := by
    rw [s1, show (6148914691236517205 : Nat) = 85 + 256 * (85 + 256 * (85 + 256 * (85 + 256 * (85 + 256 * 5592405)))) by decide, enc_and (fun f hf => by
      match f, hf with
      | 0, _ => simp; omega
      | 1, _ => simp; omega
      | 2, _ => simp; omega
      | 3, _ => simp; omega
      | 4, _ => simp; omega
      | f + 5, hf => omega) (by decide) (by decide) (by decide) (by decide) (by decide)]
    simp only [enc]
    simp only [show (0 : Nat) < 4 by decide, show (1 : Nat) < 4 by decide, show (2 : Nat) < 4 by decide, show (3 : Nat) < 4 by decide, show ¬ (4 : Nat) < 4 by decide, if_true, if_false]
    rw [(pc_1 _ h0 _ (Nat.mod_lt _ (by decide))).1, (pc_1 _ h1 _ (Nat.mod_lt _ (by decide))).1, (pc_1 _ h2 _ (Nat.mod_lt _ (by decide))).1, (pc_1 _ h3 _ (Nat.mod_lt _ (by decide))).1, (pc_1 _ h4 0 (by decide)).1]
  have le1 : enc (fun i => (d i / 2) &&& 85) ≤ enc d := by
    have := (pc_1 _ h0 0 (by decide)).2.1; have := (pc_1 _ h1 0 (by decide)).2.1; have := (pc_1 _ h2 0 (by decide)).2.1; have := (pc_1 _ h3 0 (by decide)).2.1; have := (pc_1 _ h4 0 (by decide)).2.1
    simp only [enc]; omega
  have b1 : enc d - enc (fun i => (d i / 2) &&& 85) = enc (fun i => d i - ((d i / 2) &&& 85)) := by
    have := (pc_1 _ h0 0 (by decide)).2.1; have := (pc_1 _ h1 0 (by decide)).2.1; have := (pc_1 _ h2 0 (by decide)).2.1; have := (pc_1 _ h3 0 (by decide)).2.1; have := (pc_1 _ h4 0 (by decide)).2.1
    simp only [enc]; omega
  have x1 : lN (enc d) - (((lN (enc d)).toUInt64 >>> ((1 : Int32).toInt64.toUInt64 &&& Int64.toUInt64 63)).toInt64 &&& (6148914691236517205 : Int64)) = lN (enc (fun i => d i - ((d i / 2) &&& 85))) := by
    rw [e1, show (6148914691236517205 : Int64) = lN 6148914691236517205 from rfl, wb_and (by omega) (by decide), a1, lN_sub le1, b1]
  rw [x1]
  obtain ⟨u, eu⟩ : ∃ u : Nat → Nat, u = fun i => d i - ((d i / 2) &&& 85) := ⟨_, rfl⟩
  have hu : ∀ f, f < 5 → u f < 64 := fun f hf => by rw [eu]; exact (pc_1 _ (h f hf) 0 (by decide)).2.2
  rw [← eu]
  have u0 := hu 0 (by omega); have u1 := hu 1 (by omega); have u2 := hu 2 (by omega); have u3 := hu 3 (by omega); have u4 := hu 4 (by omega)
  have hux : enc u < 2 ^ 40 := enc_lt (fun f hf => by have := hu f hf; omega)
  -- step 2
  have e2 : ((lN (enc u)).toUInt64 >>> ((2 : Int32).toInt64.toUInt64 &&& Int64.toUInt64 63)).toInt64 = lN (enc u / 4) := wb_shr (k := 2) (by omega) (by decide)
  have s2 : enc u / 4 = enc (fun i => u i / 4 + 64 * (if i < 4 then u (i + 1) % 4 else 0)) := by
    simp only [enc]; simp; omega
  have m3 : (3689348814741910323 : Nat) = 51 + 256 * (51 + 256 * (51 + 256 * (51 + 256 * (51 + 256 * 3355443)))) := by decide
  have a2 : enc u / 4 &&& 3689348814741910323 = enc (fun i => (u i / 4) &&& 51) := by
    rw [s2, m3, enc_and (fun f hf => by
      match f, hf with
      | 0, _ => simp; omega
      | 1, _ => simp; omega
      | 2, _ => simp; omega
      | 3, _ => simp; omega
      | 4, _ => simp; omega
      | f + 5, hf => omega) (by decide) (by decide) (by decide) (by decide) (by decide)]
    simp only [enc]
    simp only [show (0 : Nat) < 4 by decide, show (1 : Nat) < 4 by decide, show (2 : Nat) < 4 by decide, show (3 : Nat) < 4 by decide, show ¬ (4 : Nat) < 4 by decide, if_true, if_false]
    rw [(pc_2 _ u0 _ (Nat.mod_lt _ (by decide))).1, (pc_2 _ u1 _ (Nat.mod_lt _ (by decide))).1, (pc_2 _ u2 _ (Nat.mod_lt _ (by decide))).1, (pc_2 _ u3 _ (Nat.mod_lt _ (by decide))).1, (pc_2 _ u4 0 (by decide)).1]
  have a3 : enc u &&& 3689348814741910323 = enc (fun i => u i &&& 51) := by
    rw [m3, enc_and (fun f hf => by have := hu f hf; omega) (by decide) (by decide) (by decide) (by decide) (by decide)]
    rfl
  have x2 : (lN (enc u) &&& (3689348814741910323 : Int64)) + (((lN (enc u)).toUInt64 >>> ((2 : Int32).toInt64.toUInt64 &&& Int64.toUInt64 63)).toInt64 &&& (3689348814741910323 : Int64)) = lN (enc (fun i => (u i &&& 51) + ((u i / 4) &&& 51))) := by
    rw [e2, show (3689348814741910323 : Int64) = lN 3689348814741910323 from rfl, wb_and (by omega) (by decide), wb_and (by omega) (by decide), a2, a3, lN_add]
    congr 1
    simp only [enc]; omega
  rw [x2]
  have ev : (fun i => (u i &&& 51) + ((u i / 4) &&& 51)) = fun i => pcf (d i) := by rw [eu]; rfl
  rw [ev]
  obtain ⟨v, evv⟩ : ∃ v : Nat → Nat, v = fun i => pcf (d i) := ⟨_, rfl⟩
  have hv : ∀ f, f < 5 → v f < 103 ∧ v f % 16 ≤ 7 ∧ (v f + v f / 16) % 16 = pop (d f) ∧ pop (d f) ≤ 6 ∧ v f + v f / 16 + 16 * 7 < 256 := fun f hf => by
    rw [evv]; have := pc_f _ (h f hf); exact ⟨this.2.2.1, this.1, this.2.1, this.2.2.2⟩
  rw [← evv]
  have v0 := hv 0 (by omega); have v1 := hv 1 (by omega); have v2 := hv 2 (by omega); have v3 := hv 3 (by omega); have v4 := hv 4 (by omega)
  have hvx : enc v < 2 ^ 40 := enc_lt (fun f hf => by have := (hv f hf).1; omega)
  -- step 3
  have e3 : ((lN (enc v)).toUInt64 >>> ((4 : Int32).toInt64.toUInt64 &&& Int64.toUInt64 63)).toInt64 = lN (enc v / 16) := wb_shr (k := 4) (by omega) (by decide)
  have s3 : enc v + enc v / 16 = enc (fun i => v i + (v i / 16 + 16 * (if i < 4 then v (i + 1) % 16 else 0))) := by
    simp only [enc]; simp; omega
  have a4 : enc v + enc v / 16 &&& 1085102592571150095 = enc (fun i => pop (d i)) := by
    rw [s3, show (1085102592571150095 : Nat) = 15 + 256 * (15 + 256 * (15 + 256 * (15 + 256 * (15 + 256 * 986895)))) by decide, enc_and (fun f hf => by
      match f, hf with
      | 0, _ => simp; omega
      | 1, _ => simp; omega
      | 2, _ => simp; omega
      | 3, _ => simp; omega
      | 4, _ => simp; omega
      | f + 5, hf => omega) (by decide) (by decide) (by decide) (by decide) (by decide)]
    simp only [enc]
    simp only [show (0 : Nat) < 4 by decide, show (1 : Nat) < 4 by decide, show (2 : Nat) < 4 by decide, show (3 : Nat) < 4 by decide, show ¬ (4 : Nat) < 4 by decide, if_true, if_false]
    rw [pc_3 _ v0.1 _ (Nat.mod_lt _ (by decide)) v0.2.1, pc_3 _ v1.1 _ (Nat.mod_lt _ (by decide)) v1.2.1, pc_3 _ v2.1 _ (Nat.mod_lt _ (by decide)) v2.2.1, pc_3 _ v3.1 _ (Nat.mod_lt _ (by decide)) v3.2.1, pc_3 _ v4.1 0 (by decide) v4.2.1, v0.2.2.1, v1.2.2.1, v2.2.2.1, v3.2.2.1, v4.2.2.1]
  have x3 : (lN (enc v) + ((lN (enc v)).toUInt64 >>> ((4 : Int32).toInt64.toUInt64 &&& Int64.toUInt64 63)).toInt64) &&& (1085102592571150095 : Int64) = lN (enc (fun i => pop (d i))) := by
    rw [e3, lN_add, show (1085102592571150095 : Int64) = lN 1085102592571150095 from rfl, wb_and (by omega) (by decide), a4]
  rw [x3]
  have p0 := v0.2.2.2.1; have p1 := v1.2.2.2.1; have p2 := v2.2.2.2.1; have p3 := v3.2.2.2.1; have p4 := v4.2.2.2.1
  generalize hy3 : enc (fun i => pop (d i)) = y3
  have hy3' : y3 = pop (d 0) + 256 * (pop (d 1) + 256 * (pop (d 2) + 256 * (pop (d 3) + 256 * pop (d 4)))) := by rw [← hy3]; rfl
  have e4 : ((lN y3).toUInt64 >>> ((8 : Int32).toInt64.toUInt64 &&& Int64.toUInt64 63)).toInt64 = lN (y3 / 256) := wb_shr (k := 8) (by omega) (by decide)
  rw [e4, lN_add]
  have e5 : ((lN (y3 + y3 / 256)).toUInt64 >>> ((16 : Int32).toInt64.toUInt64 &&& Int64.toUInt64 63)).toInt64 = lN ((y3 + y3 / 256) / 65536) := wb_shr (k := 16) (by omega) (by decide)
  rw [e5, lN_add]
  generalize hy4 : y3 + y3 / 256 = y4
  have hy4b : y4 < 2 ^ 50 := by omega
  generalize hy5 : y4 + y4 / 65536 = y5
  have e6 : ((lN y5).toUInt64 >>> ((32 : Int32).toInt64.toUInt64 &&& Int64.toUInt64 63)).toInt64 = lN (y5 / 4294967296) := wb_shr (k := 32) (by omega) (by decide)
  rw [e6, lN_add, lN_i, L127, nx_and, show (127 : Nat) = 2 ^ 7 - 1 by decide, Nat.and_two_pow_sub_one_eq_mod]
  congr 2
  exact pc_end p0 p1 p2 p3 p4 hy3' hy4.symm hy5.symm
theorem bitCount32 (fu : Nat) : ∀ d, d < 64 → m_J6_bitCount_0f7a4 fu (nI d) = some (nI (pop d)) := by
  have h : ∀ d, d < 64 → m_J6_bitCount_0f7a4 0 (nI d) = some (nI (pop d)) := by decide +kernel
  exact h
/-! the shelf's methods on bytes -/
theorem b_in {c : Nat → Nat} (h : ∀ f, f < 5 → c f < 256) : enc c < 2 ^ 64 := by have := enc_lt h; omega
theorem enc_div {c : Nat → Nat} (h : ∀ f, f < 5 → c f < 256) : ∀ f, f < 5 → enc c / 2 ^ (f * 8) % 256 = c f := by
  intro f hf
  have h0 := h 0 (by omega); have h1 := h 1 (by omega); have h2 := h 2 (by omega); have h3 := h 3 (by omega); have h4 := h 4 (by omega)
  unfold enc
  match f, hf with
  | 0, _ => simp only [show (2 : Nat) ^ (0 * 8) = 1 by decide]; omega
  | 1, _ => simp only [show (2 : Nat) ^ (1 * 8) = 256 by decide]; omega
  | 2, _ => simp only [show (2 : Nat) ^ (2 * 8) = 65536 by decide]; omega
  | 3, _ => simp only [show (2 : Nat) ^ (3 * 8) = 16777216 by decide]; omega
  | 4, _ => simp only [show (2 : Nat) ^ (4 * 8) = 4294967296 by decide]; omega
theorem s_leavesOf (fu : Nat) {c : Nat → Nat} (h : ∀ f, f < 5 → c f < 256) {f : Nat} (hf : f < 5) : m_X5_leavesOf fu (lN (enc c)) (nI f) = some (nI (c f % 64)) := by
  unfold m_X5_leavesOf
  rw [L8, pk_mul, wb_shr (b_in h) (by omega), lN_i, L63, nx_and, show (63 : Nat) = 2 ^ 6 - 1 by decide, Nat.and_two_pow_sub_one_eq_mod]
  have := enc_div h f hf
  congr 2
  omega
theorem s_keptOf (fu : Nat) {c : Nat → Nat} (h : ∀ f, f < 5 → c f < 256) {f : Nat} (hf : f < 5) : m_X5_keptOf fu (lN (enc c)) (nI f) = some (nI (c f / 64)) := by
  unfold m_X5_keptOf
  rw [L8, L6, L3, pk_mul, nI_add, wb_shr (b_in h) (by omega), lN_i, nx_and, show (3 : Nat) = 2 ^ 2 - 1 by decide, Nat.and_two_pow_sub_one_eq_mod]
  have := enc_div h f hf
  have h5 := h f hf
  rw [Nat.pow_add, ← Nat.div_div_eq_div_mul]
  congr 2
  omega
theorem s_lives (fu : Nat) {c : Nat → Nat} (h : ∀ f, f < 5 → c f < 256) {f : Nat} (hf : f < 5) : m_X5_lives fu (lN (enc c)) (nI f) = some (if c f % 64 = 0 then nI 0 else nI 1) := by
  unfold m_X5_lives
  rw [s_leavesOf fu h hf, bd_some, L0, L1]
  by_cases h0 : c f % 64 = 0
  · rw [h0, if_pos rfl, if_pos rfl]
  · rw [if_neg h0, if_neg (nI_ne (by omega) (by omega) h0)]
theorem enc_bit {c : Nat → Nat} (h : ∀ f, f < 5 → c f < 256) {f l : Nat} (hf : f < 5) (hl : l < 6) : enc c / 2 ^ (f * 8 + l) % 2 = bitL (c f) l := by
  have := enc_div h f hf
  have h5 := h f hf
  unfold bitL
  rw [Nat.pow_add, ← Nat.div_div_eq_div_mul]
  generalize enc c / 2 ^ (f * 8) = y at *
  match l, hl with
  | 0, _ => simp only [show (2 : Nat) ^ 0 = 1 by decide]; omega
  | 1, _ => simp only [show (2 : Nat) ^ 1 = 2 by decide]; omega
  | 2, _ => simp only [show (2 : Nat) ^ 2 = 4 by decide]; omega
  | 3, _ => simp only [show (2 : Nat) ^ 3 = 8 by decide]; omega
  | 4, _ => simp only [show (2 : Nat) ^ 4 = 16 by decide]; omega
  | 5, _ => simp only [show (2 : Nat) ^ 5 = 32 by decide]; omega
theorem s_hasLeaf (fu : Nat) {c : Nat → Nat} (h : ∀ f, f < 5 → c f < 256) {f l : Nat} (hf : f < 5) (hl : l < 6) : m_X5_hasLeaf fu (lN (enc c)) (nI f) (nI l) = some (if bitL (c f) l = 0 then nI 0 else nI 1) := by
  unfold m_X5_hasLeaf
  rw [L8, pk_mul, nI_add, wb_shr (b_in h) (by omega), wb_a1 (Nat.lt_of_le_of_lt (Nat.div_le_self _ _) (b_in h)), enc_bit h hf hl]
  have hb : bitL (c f) l = 0 ∨ bitL (c f) l = 1 := by unfold bitL; omega
  rcases hb with hb | hb
  · rw [hb]; rfl
  · rw [hb]; rfl
theorem bit_and : ∀ x, x < 256 → ∀ l, l < 6 → (x &&& 2 ^ l) < 64 ∧ pop (x &&& 2 ^ l) = bitL x l ∧ (bitL x l = 0 → x ^^^ 2 ^ l = x + 2 ^ l ∧ x + 2 ^ l < 256) ∧ (bitL x l ≠ 0 → x ^^^ 2 ^ l = x - 2 ^ l) := by decide +kernel
theorem and63 : ∀ x, x < 256 → (x &&& 63) = x % 64 := by decide +kernel
theorem and255 : ∀ x, x < 256 → (x &&& 255) = x ∧ (x ^^^ 0) = x := by decide +kernel
def full (c : Nat → Nat) (l : Nat) : Nat := bitL (c 0) l + bitL (c 1) l + bitL (c 2) l + bitL (c 3) l + bitL (c 4) l
def allL (c : Nat → Nat) : Nat := pop (c 0 % 64) + pop (c 1 % 64) + pop (c 2 % 64) + pop (c 3 % 64) + pop (c 4 % 64)
theorem s_fullness (fu : Nat) {c : Nat → Nat} (h : ∀ f, f < 5 → c f < 256) {l : Nat} (hl : l < 6) : m_X5_fullness fu (lN (enc c)) (nI l) = some (nI (full c l)) := by
  unfold m_X5_fullness
  have hm : 4311810305 * 2 ^ l = 2 ^ l + 256 * (2 ^ l + 256 * (2 ^ l + 256 * (2 ^ l + 256 * (2 ^ l + 256 * 0)))) := by omega
  have hp : 2 ^ l < 256 := by
    have : 2 ^ l < 2 ^ 8 := Nat.pow_lt_pow_right (by decide) (by omega)
    omega
  rw [show (4311810305 : Int64) = lN 4311810305 from rfl, wb_shl _ (by omega), wb_and (b_in h) (by omega), hm, enc_and h hp hp hp hp hp]
  have e : (c 0 &&& 2 ^ l) + 256 * ((c 1 &&& 2 ^ l) + 256 * ((c 2 &&& 2 ^ l) + 256 * ((c 3 &&& 2 ^ l) + 256 * (c 4 &&& 2 ^ l)))) = enc (fun f => c f &&& 2 ^ l) := rfl
  rw [e, bitCount64 fu (fun f hf => (bit_and _ (h f hf) l hl).1), bd_some]
  simp only [(bit_and _ (h 0 (by omega)) l hl).2.1, (bit_and _ (h 1 (by omega)) l hl).2.1, (bit_and _ (h 2 (by omega)) l hl).2.1, (bit_and _ (h 3 (by omega)) l hl).2.1, (bit_and _ (h 4 (by omega)) l hl).2.1]
  rfl
theorem s_allLeaves (fu : Nat) {c : Nat → Nat} (h : ∀ f, f < 5 → c f < 256) : m_X5_allLeaves fu (lN (enc c)) = some (nI (allL c)) := by
  unfold m_X5_allLeaves
  rw [show (271644049215 : Int64) = lN 271644049215 from rfl, wb_and (b_in h) (by decide), show (271644049215 : Nat) = 63 + 256 * (63 + 256 * (63 + 256 * (63 + 256 * (63 + 256 * 0)))) by decide, enc_and h (by decide) (by decide) (by decide) (by decide) (by decide)]
  have e : (c 0 &&& 63) + 256 * ((c 1 &&& 63) + 256 * ((c 2 &&& 63) + 256 * ((c 3 &&& 63) + 256 * (c 4 &&& 63)))) = enc (fun f => c f &&& 63) := rfl
  rw [e, bitCount64 fu (fun f hf => by show c f &&& 63 < 64; rw [and63 _ (h f hf)]; omega), bd_some]
  simp only [and63 _ (h 0 (by omega)), and63 _ (h 1 (by omega)), and63 _ (h 2 (by omega)), and63 _ (h 3 (by omega)), and63 _ (h 4 (by omega))]
  rfl
def tog (x l : Nat) : Nat := if bitL x l = 0 then x + 2 ^ l else x - 2 ^ l
theorem tog_x {x l : Nat} (hx : x < 256) (hl : l < 6) : x ^^^ 2 ^ l = tog x l := by
  unfold tog
  have := bit_and x hx l hl
  by_cases h : bitL x l = 0
  · rw [if_pos h]; exact (this.2.2.1 h).1
  · rw [if_neg h]; exact this.2.2.2 h
theorem s_turned (fu : Nat) {c : Nat → Nat} (h : ∀ f, f < 5 → c f < 256) {f l : Nat} (hf : f < 5) (hl : l < 6) : m_X5_turned fu (lN (enc c)) (nI f) (nI l) = some (lN (enc (upc c f (tog (c f) l)))) := by
  unfold m_X5_turned
  have hp : 2 ^ l < 256 := by
    have : 2 ^ l < 2 ^ 8 := Nat.pow_lt_pow_right (by decide) (by omega)
    omega
  have z := fun g hg => (and255 _ (h g hg)).2
  rw [L8, pk_mul, nI_add, show (1 : Int64) = lN 1 from rfl, wb_shl _ (by omega), lxor64, Nat.one_mul, Nat.pow_add]
  congr 2
  match f, hf with
  | 0, _ =>
    rw [show 2 ^ (0 * 8) * 2 ^ l = 2 ^ l + 256 * (0 + 256 * (0 + 256 * (0 + 256 * 0))) by omega, enc_xor h hp (by decide) (by decide) (by decide) (by decide), z 1 (by decide), z 2 (by decide), z 3 (by decide), z 4 (by decide), tog_x (h 0 (by decide)) hl]; rfl
  | 1, _ =>
    rw [show 2 ^ (1 * 8) * 2 ^ l = 0 + 256 * (2 ^ l + 256 * (0 + 256 * (0 + 256 * 0))) by omega, enc_xor h (by decide) hp (by decide) (by decide) (by decide), z 0 (by decide), z 2 (by decide), z 3 (by decide), z 4 (by decide), tog_x (h 1 (by decide)) hl]; rfl
  | 2, _ =>
    rw [show 2 ^ (2 * 8) * 2 ^ l = 0 + 256 * (0 + 256 * (2 ^ l + 256 * (0 + 256 * 0))) by omega, enc_xor h (by decide) (by decide) hp (by decide) (by decide), z 1 (by decide), z 0 (by decide), z 3 (by decide), z 4 (by decide), tog_x (h 2 (by decide)) hl]; rfl
  | 3, _ =>
    rw [show 2 ^ (3 * 8) * 2 ^ l = 0 + 256 * (0 + 256 * (0 + 256 * (2 ^ l + 256 * 0))) by omega, enc_xor h (by decide) (by decide) (by decide) hp (by decide), z 1 (by decide), z 2 (by decide), z 0 (by decide), z 4 (by decide), tog_x (h 3 (by decide)) hl]; rfl
  | 4, _ =>
    rw [show 2 ^ (4 * 8) * 2 ^ l = 0 + 256 * (0 + 256 * (0 + 256 * (0 + 256 * 2 ^ l))) by omega, enc_xor h (by decide) (by decide) (by decide) (by decide) hp, z 1 (by decide), z 2 (by decide), z 3 (by decide), z 0 (by decide), tog_x (h 4 (by decide)) hl]; rfl
theorem enc_up {c : Nat → Nat} {f v w : Nat} (hf : f < 5) (h : w = c f + v) : enc (upc c f w) = enc c + v * 2 ^ (f * 8) := by
  subst h
  match f, hf with
  | 0, _ => simp [enc, upc]; omega
  | 1, _ => simp [enc, upc]; omega
  | 2, _ => simp [enc, upc]; omega
  | 3, _ => simp [enc, upc]; omega
  | 4, _ => simp [enc, upc]; omega
theorem s_keptOnceMore (fu : Nat) {c : Nat → Nat} {f : Nat} (hf : f < 5) : m_X5_keptOnceMore fu (lN (enc c)) (nI f) = some (lN (enc (upc c f (c f + 64)))) := by
  unfold m_X5_keptOnceMore
  rw [L8, pk_mul, show (64 : Int64) = lN 64 from rfl, wb_shl _ (by omega), lN_add, enc_up hf rfl]
theorem s_without (fu : Nat) {c : Nat → Nat} (h : ∀ f, f < 5 → c f < 256) {f s : Nat} (hf : f < 5) (hs : s < 256) : m_X5_without fu (lN (enc c)) (nI f) (nI s) = some (lN (enc (upc c f (c f &&& (255 ^^^ s))))) := by
  unfold m_X5_without
  have z := fun g hg => (and255 _ (h g hg)).1
  have hx : s ^^^ 255 < 256 := Nat.xor_lt_two_pow (n := 8) (by omega) (by omega)
  have hsym : 255 ^^^ s = s ^^^ 255 := Nat.xor_comm _ _
  have hsp : s * 2 ^ (f * 8) < 2 ^ 64 := by
    have : (2 : Nat) ^ (f * 8) ≤ 2 ^ 32 := Nat.pow_le_pow_right (by decide) (by omega)
    have := Nat.mul_le_mul (show s ≤ 256 by omega) this
    omega
  rw [L8, pk_mul, nI_l (by omega), wb_shl _ (by omega), show (-1 : Int64) = lN 18446744073709551615 from rfl, lxor64, wb_and (b_in h) (Nat.xor_lt_two_pow (n := 64) hsp (by decide)), hsym]
  congr 2
  have M : (18446744073709551615 : Nat) = 255 + 256 * (255 + 256 * (255 + 256 * (255 + 256 * (255 + 256 * 16777215)))) := by decide
  have k255 : ∀ A B : Nat, (0 + 256 * A) ^^^ (255 + 256 * B) = 255 + 256 * (A ^^^ B) := fun A B => by rw [lxor8 _ _ (by decide) (by decide)]; rfl
  have k0 : ∀ B : Nat, 0 ^^^ (255 + 256 * B) = 255 + 256 * B := fun B => by rw [Nat.zero_xor]
  match f, hf with
  | 0, _ =>
    rw [show s * 2 ^ (0 * 8) = s + 256 * 0 by omega, M, lxor8 _ _ (by omega) (by decide), Nat.zero_xor, enc_and h hx (by decide) (by decide) (by decide) (by decide), z 1 (by decide), z 2 (by decide), z 3 (by decide), z 4 (by decide)]; rfl
  | 1, _ =>
    rw [show s * 2 ^ (1 * 8) = 0 + 256 * (s + 256 * 0) by omega, M, k255, lxor8 _ _ (by omega) (by decide), Nat.zero_xor, enc_and h (by decide) hx (by decide) (by decide) (by decide), z 0 (by decide), z 2 (by decide), z 3 (by decide), z 4 (by decide)]; rfl
  | 2, _ =>
    rw [show s * 2 ^ (2 * 8) = 0 + 256 * (0 + 256 * (s + 256 * 0)) by omega, M, k255, k255, lxor8 _ _ (by omega) (by decide), Nat.zero_xor, enc_and h (by decide) (by decide) hx (by decide) (by decide), z 1 (by decide), z 0 (by decide), z 3 (by decide), z 4 (by decide)]; rfl
  | 3, _ =>
    rw [show s * 2 ^ (3 * 8) = 0 + 256 * (0 + 256 * (0 + 256 * (s + 256 * 0))) by omega, M, k255, k255, k255, lxor8 _ _ (by omega) (by decide), Nat.zero_xor, enc_and h (by decide) (by decide) (by decide) hx (by decide), z 1 (by decide), z 2 (by decide), z 0 (by decide), z 4 (by decide)]; rfl
  | 4, _ =>
    rw [show s * 2 ^ (4 * 8) = 0 + 256 * (0 + 256 * (0 + 256 * (0 + 256 * (s + 256 * 0)))) by omega, M, k255, k255, k255, k255, lxor8 _ _ (by omega) (by decide), Nat.zero_xor, enc_and h (by decide) (by decide) (by decide) (by decide) hx, z 1 (by decide), z 2 (by decide), z 3 (by decide), z 0 (by decide)]; rfl
