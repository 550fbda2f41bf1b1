/-! the reference's archive -/
def AM (SM : ST) (n : Nat) (kd : Nat → Nat) (tg : Nat → Int32) (rm : Nat) (lt : Nat → Nat) : Prop :=
  stI SM 4 = nI n ∧ stI SM 1 = nI rm ∧ (∀ f, f < n → stR SM 2 (2 * f) = nI (kd f)) ∧ (∀ f, f < n → stR SM 2 (2 * f + 1) = tg f) ∧ ∀ l, l < 6 → stR SM 1 l = nI (lt l)
def Nw (SM : ST) (j k n : Nat) (c : Nat → Nat) : Prop := (∀ f, f < n → stR SM j f = nI (c f % 64)) ∧ ∀ f, f < n → stR SM k f = nI (c f / 64)
def Ex (xs : List Nat) (S S' : ST) : Prop := (∀ k, stI S' k = stI S k) ∧ (∀ k, stL S' k = stL S k) ∧ ∀ k, k ∉ xs → stR S' k = stR S k
theorem Ex.rf {xs : List Nat} {S : ST} : Ex xs S S := ⟨fun _ => rfl, fun _ => rfl, fun _ _ => rfl⟩
theorem Ex.tr {xs : List Nat} {S S1 S2 : ST} (h1 : Ex xs S S1) (h2 : Ex xs S1 S2) : Ex xs S S2 := ⟨fun k => (h2.1 k).trans (h1.1 k), fun k => (h2.2.1 k).trans (h1.2.1 k), fun k hk => (h2.2.2 k hk).trans (h1.2.2 k hk)⟩
theorem Ex.mono {xs ys : List Nat} {S S1 : ST} (h : ∀ k, k ∈ xs → k ∈ ys) (h1 : Ex xs S S1) : Ex ys S S1 := ⟨h1.1, h1.2.1, fun k hk => h1.2.2 k (fun q => hk (h k q))⟩
theorem Ex.wr {xs : List Nat} {S : ST} {j : Nat} {f : Nat → Int32} (hj : j ∈ xs) : Ex xs S (puR S j f) := ⟨fun _ => rfl, fun _ => rfl, fun k hk => by
  have hne : ¬ k = j := fun e => hk (by rw [e]; exact hj)
  rw [stR_puR, if_neg hne]⟩
theorem AM.ex {SM SM' : ST} {n : Nat} {kd : Nat → Nat} {tg : Nat → Int32} {rm : Nat} {lt : Nat → Nat} {xs : List Nat} (h : AM SM n kd tg rm lt) (hx : Ex xs SM SM') (h1 : 1 ∉ xs) (h2 : 2 ∉ xs) : AM SM' n kd tg rm lt := by
  unfold AM
  rw [hx.1, hx.1, hx.2.2 1 h1, hx.2.2 2 h2]
  exact h
theorem Nw.ex {SM SM' : ST} {j k n : Nat} {c : Nat → Nat} {xs : List Nat} (h : Nw SM j k n c) (hx : Ex xs SM SM') (h1 : j ∉ xs) (h2 : k ∉ xs) : Nw SM' j k n c := by
  unfold Nw
  rw [hx.2.2 j h1, hx.2.2 k h2]
  exact h
def sumN (g : Nat → Nat) : Nat → Nat
  | 0 => 0
  | k + 1 => sumN g k + g k
theorem sumN_le {g : Nat → Nat} {b : Nat} (h : ∀ i, g i ≤ b) : ∀ k, sumN g k ≤ k * b
  | 0 => by simp [sumN]
  | k + 1 => by
    have := sumN_le h k
    have := h k
    rw [sumN, Nat.succ_mul]
    omega
theorem sumN_5 {g : Nat → Nat} {n : Nat} (hn : n ≤ 5) (h : ∀ f, n ≤ f → g f = 0) : sumN g n = g 0 + g 1 + g 2 + g 3 + g 4 := by
  match n, hn with
  | 0, _ => simp [sumN, h]
  | 1, _ => simp [sumN, h]
  | 2, _ => simp [sumN, h]
  | 3, _ => simp [sumN, h]
  | 4, _ => simp [sumN, h]
  | 5, _ => simp [sumN]
theorem fullN {c : Nat → Nat} {n l : Nat} (hn : n ≤ 5) (hc : OKc n c) : sumN (fun f => bitL (c f) l) n = full c l := sumN_5 hn (fun f hf => by
  show bitL (c f) l = 0
  rw [hc.2 f hf]; unfold bitL; simp)
theorem allN {c : Nat → Nat} {n : Nat} (hn : n ≤ 5) (hc : OKc n c) : sumN (fun f => pop (c f % 64)) n = allL c := sumN_5 hn (fun f hf => by
  show pop (c f % 64) = 0
  rw [hc.2 f hf]; rfl)
theorem bit64 : ∀ x, x < 192 → ∀ l, l < 6 → x % 64 / 2 ^ l % 2 = bitL x l := by decide +kernel
theorem shr1 {x l : Nat} (hx : x < 192) (hl : l < 6) : (nI (x % 64) >>> (nI l &&& nI 31)) &&& nI 1 = nI (bitL x l) := by
  rw [shrN (by omega) (by omega), nx_and, show (1 : Nat) = 2 ^ 1 - 1 by decide, Nat.and_two_pow_sub_one_eq_mod, show (2 : Nat) ^ 1 = 2 by decide, bit64 x hx l hl]
theorem bitL_01 (x l : Nat) : bitL x l = 0 ∨ bitL x l = 1 := by unfold bitL; omega
section MOD
variable {SM : ST} {n : Nat} {kd : Nat → Nat} {tg : Nat → Int32} {rm : Nat} {lt : Nat → Nat} {c : Nat → Nat} {fu : Nat}
theorem r_fullness_4 (hA : AM SM n kd tg rm lt) (hW : WF0 n kd tg rm lt) (hc : OKc n c) {k : Nat} (hN : Nw SM 3 k n c) {l : Nat} (hl : l < 6) (hfu : 100 ≤ fu) : m_X7_fullness_4 fu (nI l) SM = some (nI (full c l)) := by
  have hn := hW.1
  rw [← fullN hn hc]
  unfold m_X7_fullness_4
  refine lq2_run (fun o => o = _) n (fun i x y => x = nI (sumN (fun f => bitL (c f) l) i) ∧ y = nI i) ?_ ?_ fu 0 _ _ (Nat.zero_le n) (by omega) ⟨rfl, rfl⟩
  · rintro i x y again hi ⟨rfl, rfl⟩
    right
    unfold m_X7_fullness_4_L5
    rw [hA.1, if_neg (nI_ge hi (by omega)), inB_nI (by omega) (by decide), gd_true]
    simp only [nm, L31, L1]
    rw [rd_nI (by omega), hN.1 i hi, shr1 (hc.1 i) hl, nI_add, nI_add]
    exact ⟨_, _, ⟨rfl, rfl⟩, rfl⟩
  · rintro x y again ⟨rfl, rfl⟩
    unfold m_X7_fullness_4_L5
    rw [hA.1, if_pos (nI_le (Nat.le_refl n) (by omega))]
theorem r_fullness_6 (hA : AM SM n kd tg rm lt) (hW : WF0 n kd tg rm lt) (hc : OKc n c) {k : Nat} (hN : Nw SM 5 k n c) {l : Nat} (hl : l < 6) (hfu : 100 ≤ fu) : m_X7_fullness_6 fu (nI l) SM = some (nI (full c l)) := by
  have hn := hW.1
  rw [← fullN hn hc]
  unfold m_X7_fullness_6
  refine lq2_run (fun o => o = _) n (fun i x y => x = nI (sumN (fun f => bitL (c f) l) i) ∧ y = nI i) ?_ ?_ fu 0 _ _ (Nat.zero_le n) (by omega) ⟨rfl, rfl⟩
  · rintro i x y again hi ⟨rfl, rfl⟩
    right
    unfold m_X7_fullness_6_L5
    rw [hA.1, if_neg (nI_ge hi (by omega)), inB_nI (by omega) (by decide), gd_true]
    simp only [nm, L31, L1]
    rw [rd_nI (by omega), hN.1 i hi, shr1 (hc.1 i) hl, nI_add, nI_add]
    exact ⟨_, _, ⟨rfl, rfl⟩, rfl⟩
  · rintro x y again ⟨rfl, rfl⟩
    unfold m_X7_fullness_6_L5
    rw [hA.1, if_pos (nI_le (Nat.le_refl n) (by omega))]
theorem ones_step : ∀ x, x < 64 → ∀ i, i < 6 → (nI x >>> (nI i &&& nI 31)) &&& nI 1 = nI (x / 2 ^ i % 2) := by decide +kernel
theorem r_ones {x : Nat} (hx : x < 64) (hfu : 100 ≤ fu) : m_X7_ones fu (nI x) = some (nI (pop x)) := by
  have hp : sumN (fun i => x / 2 ^ i % 2) 6 = pop x := by simp [sumN, pop]
  rw [← hp]
  unfold m_X7_ones
  refine lq2_run (fun o => o = _) 6 (fun i y z => y = nI (sumN (fun i => x / 2 ^ i % 2) i) ∧ z = nI i) ?_ ?_ fu 0 _ _ (by omega) (by omega) ⟨rfl, rfl⟩
  · rintro i y z again hi ⟨rfl, rfl⟩
    right
    unfold m_X7_ones_L4
    rw [L6, if_neg (nI_ge hi (by omega))]
    simp only [nm, L31, L1]
    rw [ones_step x hx i hi, nI_add, nI_add]
    exact ⟨_, _, ⟨rfl, rfl⟩, rfl⟩
  · rintro y z again ⟨rfl, rfl⟩
    unfold m_X7_ones_L4
    rw [L6, if_pos (nI_le (Nat.le_refl 6) (by omega))]
theorem r_isPointedAt (hA : AM SM n kd tg rm lt) (hW : WF0 n kd tg rm lt) (hN : ∀ f, f < n → stR SM 7 f = nI (c f % 64)) {f : Nat} (hfu : 100 ≤ fu) : m_X7_isPointedAt fu (nI f) SM = some (if ptd tg c f n = true then nI 1 else nI 0) := by
  have hn := hW.1
  unfold m_X7_isPointedAt
  refine lq2_run (fun o => o = _) n (fun i x y => x = (if ptd tg c f i = true then nI 1 else nI 0) ∧ y = nI i) ?_ ?_ fu 0 _ _ (Nat.zero_le n) (by omega) ⟨rfl, rfl⟩
  · rintro i x y again hi ⟨rfl, rfl⟩
    right
    unfold m_X7_isPointedAt_L4
    rw [hA.1, if_neg (nI_ge hi (by omega))]
    simp only [jn0, jn1, nm, L0, L1, nI_add, L2, pk_mul]
    by_cases hp : ptd tg c f i = true
    · rw [if_pos hp, if_neg (nI_ne (by decide) (by decide) (by decide))]
      exact ⟨_, _, ⟨by rw [if_pos]; simp [ptd, hp], rfl⟩, rfl⟩
    · rw [if_neg hp, if_pos rfl, inB_nI (by omega) (by decide), gd_true, rd_nI (by omega), hN i hi]
      by_cases h0 : c i % 64 = 0
      · rw [h0, if_pos rfl]
        exact ⟨_, _, ⟨by rw [if_neg]; simp [ptd, hp, h0], rfl⟩, rfl⟩
      · rw [if_neg (nI_ne (by omega) (by decide) h0), inB_nI (by omega) (by decide), gd_true, rd_nI (by omega), hA.2.2.2.1 i hi]
        by_cases ht : tg i = nI f
        · rw [if_pos ht]
          exact ⟨_, _, ⟨by rw [if_pos]; simp [ptd, h0, ht], rfl⟩, rfl⟩
        · rw [if_neg ht]
          exact ⟨_, _, ⟨by rw [if_neg]; simp [ptd, hp, ht], rfl⟩, rfl⟩
  · rintro x y again ⟨rfl, rfl⟩
    unfold m_X7_isPointedAt_L4
    rw [hA.1, if_pos (nI_le (Nat.le_refl n) (by omega))]
    by_cases hp : ptd tg c f n = true
    · rw [if_pos hp]; rfl
    · rw [if_neg hp]; rfl
/-- what burns of a file, by its byte -/
def savM (kd : Nat) (pt : Bool) (x l : Nat) : Bool := decide (x % 64 = 2 ^ l) && (decide (x / 64 < mostK kd) && pt)
def burM (kd : Nat) (pt : Bool) (x l : Nat) : Nat := if bitL x l = 0 ∨ savM kd pt x l = true then 0 else (if kd = 4 then 2 ^ l ||| (x % 64 &&& 2 ^ ((l + 1) % 6)) else 2 ^ l)
theorem burM_fact : ∀ kd, kd ≤ 4 → ∀ l, l < 6 → ∀ x, x < 192 → ∀ pt, burM kd pt x l < 64 ∧ (x % 64 &&& (63 ^^^ burM kd pt x l)) = burnB kd pt x l % 64 ∧ x / 64 + (if savM kd pt x l = true then 1 else 0) = burnB kd pt x l / 64 ∧ pop (x % 64) = pop (burnB kd pt x l % 64) + pop (burM kd pt x l) := by decide +kernel
theorem andnot : ∀ a, a < 64 → ∀ b, b < 64 → nI a &&& (nI b ^^^ -1) = nI (a &&& (63 ^^^ b)) := by decide +kernel
theorem nextb : ∀ l, l < 6 → nI 1 <<< ((nI l + nI 1 - (nI l + nI 1) / nI 6 * nI 6) &&& nI 31) = nI (2 ^ ((l + 1) % 6)) ∧ nI 1 <<< (nI l &&& nI 31) = nI (2 ^ l) ∧ 2 ^ l < 64 ∧ 2 ^ ((l + 1) % 6) < 64 := by decide +kernel
theorem r_burnsOf (hA : AM SM n kd tg rm lt) (hW : WF0 n kd tg rm lt) (hc : OKc n c) (hN : ∀ f, f < n → stR SM 7 f = nI (c f % 64)) {f : Nat} (hf : f < n) (hK : stR SM 6 f = nI (c f / 64)) {l : Nat} (hl : l < 6) (hfu : 100 ≤ fu) :
    ∃ SM', m_X7_burnsOf fu (nI f) (nI l) SM = some (nI (burM (kd f) (ptd tg c f n) (c f) l), SM') ∧ Ex [6] SM SM' ∧ stR SM' 6 f = nI (burnB (kd f) (ptd tg c f n) (c f) l / 64) ∧ ∀ g, g ≠ f → stR SM' 6 g = stR SM 6 g := by
  have hn := hW.1
  have hk := hW.2.2.1 f hf
  have hx := hc.1 f
  have hfa := burM_fact (kd f) hk l hl (c f) hx (ptd tg c f n)
  have hnb := nextb l hl
  have h10 : ¬ (1 : Int32) = 0 := by decide
  have h01 : ¬ (0 : Int32) = 1 := by decide
  have e5 : inB (nI f) 5 = true := inB_nI (by omega) (by decide)
  have e2f : (2 : Int32) * nI f = nI (2 * f) := pk_mul 2 f
  have e10 : inB (nI (2 * f)) 10 = true := inB_nI (by omega) (by decide)
  have r7 : rdA SM 7 (nI f) = nI (c f % 64) := by rw [rd_nI (by omega), hN f hf]
  have r6 : rdA SM 6 (nI f) = nI (c f / 64) := by rw [rd_nI (by omega), hK]
  have r2 : rdA SM 2 (nI (2 * f)) = nI (kd f) := by rw [rd_nI (by omega), hA.2.2.1 f hf]
  have hsh : (nI (c f % 64) >>> (nI l &&& (31 : Int32))) &&& (1 : Int32) = nI (bitL (c f) l) := shr1 hx hl
  have hon : (1 : Int32) <<< (nI l &&& (31 : Int32)) = nI (2 ^ l) := hnb.2.1
  have hnx : (1 : Int32) <<< ((nI l + (1 : Int32) - (nI l + (1 : Int32)) / (6 : Int32) * (6 : Int32)) &&& (31 : Int32)) = nI (2 ^ ((l + 1) % 6)) := hnb.1
  have hwr : ∀ v, Ex [6] SM (wrA SM 6 (nI f) v) ∧ stR (wrA SM 6 (nI f) v) 6 f = v ∧ ∀ g, g ≠ f → stR (wrA SM 6 (nI f) v) 6 g = stR SM 6 g := fun v => by
    rw [wr_nI (by omega)]
    refine ⟨Ex.wr (by decide), ?_, fun g hg => ?_⟩
    · rw [stR_puR, if_pos rfl]; exact pk_us
    · rw [stR_puR, if_pos rfl]; exact pk_un hg
  have hsv : savM (kd f) (ptd tg c f n) (c f) l = true → bitL (c f) l = 1 := by
    have h0 : ∀ l, l < 6 → ∀ x, x < 192 → x % 64 = 2 ^ l → bitL x l = 1 := by decide +kernel
    intro h
    simp only [savM, Bool.and_eq_true, decide_eq_true_eq] at h
    exact h0 l hl _ hx h.1
  unfold m_X7_burnsOf
  simp only [jn0, jn1, nm, e5, e2f, e10, r7, r6, r2, hsh, hon, hnx, gd_true, r_isPointedAt hA hW hN hfu, bd_some]
  have hkk := hfa.2.2.1
  -- the conditions, as numbers
  have cE : (nI (c f % 64) = nI (2 ^ l)) ↔ c f % 64 = 2 ^ l := nI_eq (by omega) (by omega)
  have cB : (nI (bitL (c f) l) = (1 : Int32)) ↔ bitL (c f) l = 1 := nI_eq (b := 1) (by have := bitL_01 (c f) l; omega) (by decide)
  have c2 : (nI (kd f) = (2 : Int32)) ↔ kd f = 2 := nI_eq (b := 2) (by omega) (by decide)
  have c4 : (nI (kd f) = (4 : Int32)) ↔ kd f = 4 := nI_eq (b := 4) (by omega) (by decide)
  have g2 : ((2 : Int32) ≤ nI (c f / 64)) ↔ 2 ≤ c f / 64 := nI_leI (a := 2) (by decide) (by omega)
  have g1 : ((1 : Int32) ≤ nI (c f / 64)) ↔ 1 ≤ c f / 64 := nI_leI (a := 1) (by decide) (by omega)
  have cP : ((if ptd tg c f n = true then nI 1 else nI 0) = (0 : Int32)) ↔ ¬ ptd tg c f n = true := by
    by_cases h : ptd tg c f n = true
    · rw [if_pos h]; exact ⟨fun q => absurd q h10, fun q => absurd h q⟩
    · rw [if_neg h]; exact ⟨fun _ => h, fun _ => rfl⟩
  simp only [cE, cB, c2, c4, g2, g1, cP, h10, if_false]
  by_cases hs : savM (kd f) (ptd tg c f n) (c f) l = true
  · have hb := hsv hs
    have hbr : burM (kd f) (ptd tg c f n) (c f) l = 0 := by rw [burM, if_pos (Or.inr hs)]
    rw [hbr, ← hkk, if_pos hs]
    simp only [savM, Bool.and_eq_true, decide_eq_true_eq] at hs
    obtain ⟨h1, h2, h3⟩ := hs
    unfold mostK at h2
    by_cases h5 : kd f = 2
    · rw [if_pos h5] at h2
      have h6 : ¬ 2 ≤ c f / 64 := by omega
      simp only [hb, h1, h5, h6, h3, not_true, if_true, if_false]
      exact ⟨_, rfl, (hwr _).1, (hwr _).2.1.trans (nI_add _ 1), (hwr _).2.2⟩
    · rw [if_neg h5] at h2
      have h6 : ¬ 1 ≤ c f / 64 := by omega
      simp only [hb, h1, h5, h6, h3, not_true, if_true, if_false]
      exact ⟨_, rfl, (hwr _).1, (hwr _).2.1.trans (nI_add _ 1), (hwr _).2.2⟩
  · rw [if_neg hs, Nat.add_zero] at hkk
    rw [← hkk]
    have goal1 : bitL (c f) l = 1 → ∃ SM', (if kd f = 4 then some (nI (2 ^ l) ||| nI (c f % 64) &&& nI (2 ^ ((l + 1) % 6)), SM) else some (nI (2 ^ l) ||| (0 : Int32), SM)) = some (nI (burM (kd f) (ptd tg c f n) (c f) l), SM') ∧ Ex [6] SM SM' ∧ stR SM' 6 f = nI (c f / 64) ∧ ∀ g, g ≠ f → stR SM' 6 g = stR SM 6 g := by
      intro hb
      refine ⟨SM, ?_, Ex.rf, hK, fun _ _ => rfl⟩
      have hbb : ¬ (bitL (c f) l = 0 ∨ savM (kd f) (ptd tg c f n) (c f) l = true) := by
        rintro (h | h)
        · omega
        · exact hs h
      rw [burM, if_neg hbb]
      by_cases h4 : kd f = 4
      · rw [if_pos h4, if_pos h4, nx_and, nx_or]
      · rw [if_neg h4, if_neg h4, L0, nx_or, Nat.or_zero]
    have goal0 : ¬ bitL (c f) l = 1 → ∃ SM', some ((0 : Int32), wrA SM 6 (nI f) (nI (c f / 64) + (0 : Int32))) = some (nI (burM (kd f) (ptd tg c f n) (c f) l), SM') ∧ Ex [6] SM SM' ∧ stR SM' 6 f = nI (c f / 64) ∧ ∀ g, g ≠ f → stR SM' 6 g = stR SM 6 g := by
      intro hb
      have hb0 : bitL (c f) l = 0 := by have := bitL_01 (c f) l; omega
      have hbr : burM (kd f) (ptd tg c f n) (c f) l = 0 := by rw [burM, if_pos (Or.inl hb0)]
      rw [hbr]
      exact ⟨_, rfl, (hwr _).1, (hwr _).2.1.trans (nI_add _ 0), (hwr _).2.2⟩
    by_cases hb : bitL (c f) l = 1
    · by_cases h1 : c f % 64 = 2 ^ l
      · by_cases h5 : kd f = 2
        · by_cases h6 : 2 ≤ c f / 64
          · simp only [hb, h1, h5, h6, if_true, if_false]
            have := goal1 hb
            simp only [h1, h5] at this
            exact this
          · have h3 : ptd tg c f n = false := Bool.eq_false_iff.mpr (fun h => hs (by simp [savM, mostK, h1, h5, h]; omega))
            simp only [hb, h1, h5, h6, h3, Bool.false_eq_true, not_false_iff, if_true, if_false]
            have := goal1 hb
            simp only [h1, h5, h3] at this
            exact this
        · by_cases h6 : 1 ≤ c f / 64
          · simp only [hb, h1, h5, h6, if_true, if_false]
            have := goal1 hb
            simp only [h1] at this
            exact this
          · have h3 : ptd tg c f n = false := Bool.eq_false_iff.mpr (fun h => hs (by simp [savM, mostK, h1, h5, h]; omega))
            simp only [hb, h1, h5, h6, h3, Bool.false_eq_true, not_false_iff, if_true, if_false]
            have := goal1 hb
            simp only [h1, h3] at this
            exact this
      · simp only [hb, h1, if_true, if_false]
        exact goal1 hb
    · have h1 : ¬ c f % 64 = 2 ^ l := fun h => by
        have h0 : ∀ l, l < 6 → ∀ x, x < 192 → x % 64 = 2 ^ l → bitL x l = 1 := by decide +kernel
        exact hb (h0 l hl _ hx h)
      simp only [hb, h1, if_true, if_false]
      exact goal0 hb
end MOD
