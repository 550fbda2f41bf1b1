/-! the fewest leaves that are sure -/
def lsS (k s l : Nat) : Nat := if bitL s l = 0 then s else s &&& (63 ^^^ lostB k l)
theorem lost_lt : ∀ k, k ≤ 4 → ∀ l, l < 6 → lostB k l < 64 := by decide +kernel
theorem lsS_lt {k s l : Nat} (hs : s < 64) : lsS k s l < 64 := by
  unfold lsS
  split
  · exact hs
  · exact Nat.lt_of_le_of_lt Nat.and_le_left hs
theorem lsS_0 {k l : Nat} : lsS k 0 l = 0 := by unfold lsS bitL; simp
def sr (k : Nat) (lt : Nat → Nat) : Nat → Nat → Prop
  | 0, s => s ≠ 0
  | y + 1, s => ∀ l, l < 6 → lt l ≠ 0 → sr k lt y (lsS k s l)
theorem sr_dead {k : Nat} {lt : Nat → Nat} (h : ∃ l, l < 6 ∧ lt l ≠ 0) : ∀ y, ¬ sr k lt y 0
  | 0 => fun q => q rfl
  | y + 1 => fun q => by
    obtain ⟨l, h1, h2⟩ := h
    have := q l h1 h2
    rw [lsS_0] at this
    exact sr_dead ⟨l, h1, h2⟩ y this
theorem bit_tst : ∀ s, s < 64 → ∀ l, l < 6 → ((nI s &&& ((1 : Int32) <<< (nI l &&& (31 : Int32)))) = (0 : Int32) ↔ bitL s l = 0) := by decide +kernel
theorem d_left {SD : ST} {n : Nat} {kd : Nat → Nat} {tg : Nat → Int32} {rm : Nat} {lt : Nat → Nat} (hA : AD SD n kd tg rm lt) (hW : WF0 n kd tg rm lt) (hs : ∃ l, l < 6 ∧ lt l ≠ 0) {k : Nat} (hk : k ≤ 4) : ∀ (d y s : Nat), s < 64 → y < d → d ≤ 8 → (sr k lt y s ∧ m_X1_isLeftForSure FU d (nI k) (nI s) (nI y) SD = some 1) ∨ (¬ sr k lt y s ∧ m_X1_isLeftForSure FU d (nI k) (nI s) (nI y) SD = some 0) := by
  intro d
  induction d with
  | zero => intro y s hs h; omega
  | succ d ih =>
    intro y s hs6 hy hd
    show (_ ∧ m_X1_isLeftForSure_B FU (m_X1_isLeftForSure FU d) (nI k) (nI s) (nI y) SD = _) ∨ (_ ∧ m_X1_isLeftForSure_B FU (m_X1_isLeftForSure FU d) (nI k) (nI s) (nI y) SD = _)
    unfold m_X1_isLeftForSure_B
    simp only [jn0]
    by_cases h0 : s = 0
    · subst h0
      rw [if_pos n0_0, if_pos n0_0]
      exact Or.inr ⟨sr_dead hs y, rfl⟩
    have hne : ¬ nI s = (0 : Int32) := nI_ne (b := 0) (by omega) (by decide) h0
    rw [if_neg hne, if_neg hne]
    match y, hy with
    | 0, hy =>
      rw [if_neg (show ¬ (0 : Int32) < nI 0 by decide)]
      exact Or.inl ⟨h0, rfl⟩
    | y + 1, hy =>
      rw [if_pos (show (0 : Int32) < nI (y + 1) from nI_lt (a := 0) (by omega) (by omega))]
      have hpr : nI (y + 1) - (1 : Int32) = nI y := nI_pred y
      refine lq1_run (fun o => (sr k lt (y + 1) s ∧ o = some 1) ∨ (¬ sr k lt (y + 1) s ∧ o = some 0)) 6 (fun i x => x = nI i ∧ ∀ l, l < i → lt l ≠ 0 → sr k lt y (lsS k s l)) ?_ ?_ FU 0 _ (by omega) (by have := FU_v; omega) ⟨rfl, fun l hl => by omega⟩
      · rintro i x again hi ⟨rfl, hal⟩
        unfold m_X1_isLeftForSure_L21
        rw [if_neg (show ¬ (6 : Int32) ≤ nI i from nI_ge (b := 6) hi (by decide)), d_mayBurn hA hW hi, bd_some]
        simp only [jn0, jn1, nm]
        rw [show nI i + (1 : Int32) = nI (i + 1) from nI_add i 1]
        by_cases hz : lt i = 0
        · rw [if_pos hz, if_pos n0_0]
          refine Or.inr ⟨_, ⟨rfl, fun l hl hl2 => ?_⟩, rfl⟩
          rcases Nat.lt_or_ge l i with q | q
          · exact hal l q hl2
          · rw [show l = i by omega] at hl2
            exact absurd hz hl2
        rw [if_neg hz, if_neg n1_0]
        have hst : (if (nI s &&& ((1 : Int32) <<< (nI i &&& (31 : Int32)))) = (0 : Int32) then (bd (m_X1_isLeftForSure FU d (nI k) (nI s) (nI (y + 1) - (1 : Int32)) SD) (fun v_18 => (if v_18 = (0 : Int32) then some (0 : Int32) else again (nI (i + 1))))) else bd (m_X2_lostWith FU (nI k) (nI i)) (fun v_22 => bd (m_X1_isLeftForSure FU d (nI k) (nI s &&& (v_22 ^^^ (-1 : Int32))) (nI (y + 1) - (1 : Int32)) SD) (fun v_18 => (if v_18 = (0 : Int32) then some (0 : Int32) else again (nI (i + 1)))))) = bd (m_X1_isLeftForSure FU d (nI k) (nI (lsS k s i)) (nI y) SD) (fun v_18 => (if v_18 = (0 : Int32) then some (0 : Int32) else again (nI (i + 1)))) := by
          rw [hpr]
          by_cases hb : bitL s i = 0
          · rw [if_pos ((bit_tst s hs6 i hi).mpr hb), lsS, if_pos hb]
          · rw [if_neg (fun q => hb ((bit_tst s hs6 i hi).mp q)), d_lostWith k hk i hi, bd_some, andnot s hs6 _ (lost_lt k hk i hi), lsS, if_neg hb]
        have hgo : ∀ o : Option Int32, o = bd (m_X1_isLeftForSure FU d (nI k) (nI (lsS k s i)) (nI y) SD) (fun v_18 => (if v_18 = (0 : Int32) then some (0 : Int32) else again (nI (i + 1)))) → ((sr k lt (y + 1) s ∧ o = some 1) ∨ (¬ sr k lt (y + 1) s ∧ o = some 0)) ∨ ∃ y0, (y0 = nI (i + 1) ∧ ∀ l, l < i + 1 → lt l ≠ 0 → sr k lt y (lsS k s l)) ∧ o = again y0 := by
          intro o ho
          rcases ih y (lsS k s i) (lsS_lt hs6) (by omega) (by omega) with ⟨h1, h2⟩ | ⟨h1, h2⟩
          · rw [h2, bd_some, if_neg one0] at ho
            refine Or.inr ⟨_, ⟨rfl, fun l hl hl2 => ?_⟩, ho⟩
            rcases Nat.lt_or_ge l i with q | q
            · exact hal l q hl2
            · rw [show l = i by omega]; exact h1
          · rw [h2, bd_some, if_pos rfl] at ho
            exact Or.inl (Or.inr ⟨fun q => h1 (q i hi hz), ho⟩)
        have hj : ∀ (P Q : Prop) [Decidable P] (A B : Option Int32), (if P then (if (0 : Int32) = 0 then A else B) else (if (1 : Int32) = 0 then A else B)) = if P then A else B := by
          intro P Q _ A B
          by_cases h : P
          · rw [if_pos h, if_pos h, if_pos rfl]
          · rw [if_neg h, if_neg h, if_neg one0]
        refine hgo _ ?_
        rw [← hst]
        by_cases h : (nI s &&& ((1 : Int32) <<< (nI i &&& (31 : Int32)))) = (0 : Int32)
        · rw [if_pos h, if_pos h]; rfl
        · rw [if_neg h, if_neg h, if_neg one0]
      · rintro x again ⟨rfl, hal⟩
        unfold m_X1_isLeftForSure_L21
        rw [if_pos (show (6 : Int32) ≤ nI 6 by decide)]
        exact Or.inl ⟨hal, rfl⟩
def rsN (k s code : Nat) : Nat → Nat
  | 0 => s
  | j + 1 => lsS k (rsN k s code j) (dg code j)
def myN (lt : Nat → Nat) (code : Nat) : Nat → Bool
  | 0 => true
  | j + 1 => myN lt code j && !decide (lt (dg code j) = 0)
theorem rsN_lt {k s code : Nat} (h : s < 64) : ∀ j, rsN k s code j < 64
  | 0 => h
  | j + 1 => lsS_lt (rsN_lt h j)
theorem rsN_front {k s code : Nat} : ∀ j, rsN k s code (j + 1) = rsN k (lsS k s (code % 6)) (code / 6) j
  | 0 => by show lsS k s (dg code 0) = _; rw [dg_0]; rfl
  | j + 1 => by
    show lsS k (rsN k s code (j + 1)) (dg code (j + 1)) = lsS k (rsN k (lsS k s (code % 6)) (code / 6) j) (dg (code / 6) j)
    rw [rsN_front j, dg_s]
theorem myN_front {lt : Nat → Nat} {code : Nat} : ∀ j, myN lt code (j + 1) = (!decide (lt (code % 6) = 0) && myN lt (code / 6) j)
  | 0 => by simp [myN, dg_0]
  | j + 1 => by
    show (myN lt code (j + 1) && !decide (lt (dg code (j + 1)) = 0)) = (!decide (lt (code % 6) = 0) && (myN lt (code / 6) j && !decide (lt (dg (code / 6) j) = 0)))
    rw [myN_front j, dg_s, Bool.and_assoc]
theorem sr_codes {k : Nat} {lt : Nat → Nat} : ∀ y s, sr k lt y s ↔ ∀ code, code < 6 ^ y → myN lt code y = true → rsN k s code y ≠ 0
  | 0, s => ⟨fun h code _ _ => h, fun h => h 0 (by decide) rfl⟩
  | y + 1, s => by
    refine ⟨fun h code hc hm => ?_, fun h l hl hz => ?_⟩
    · rw [myN_front, Bool.and_eq_true] at hm
      rw [rsN_front]
      have h1 := h (code % 6) (Nat.mod_lt _ (by decide)) (by have := hm.1; simp at this; exact this)
      exact (sr_codes y _).mp h1 (code / 6) (by rw [Nat.pow_succ] at hc; omega) hm.2
    · refine (sr_codes y _).mpr (fun q hq hm => ?_)
      have e1 : (6 * q + l) % 6 = l := by omega
      have e2 : (6 * q + l) / 6 = q := by omega
      have := h (6 * q + l) (by rw [Nat.pow_succ]; omega) (by rw [myN_front, e1, e2, hm]; simp [hz])
      rw [rsN_front, e1, e2] at this
      exact this
theorem now_a : ∀ a, a < 64 → nI a &&& (-1 : Int32) = nI a := by decide +kernel
theorem now_b : ∀ a, a < 64 → ∀ l, l < 6 → (nI a &&& (((1 : Int32) <<< (nI l &&& (31 : Int32))) ^^^ (-1 : Int32))) &&& (-1 : Int32) = nI (a &&& (63 ^^^ 2 ^ l)) := by decide +kernel
theorem now_c : ∀ a, a < 64 → ∀ l, l < 6 → (nI a &&& (((1 : Int32) <<< (nI l &&& (31 : Int32))) ^^^ (-1 : Int32))) &&& (((1 : Int32) <<< (((nI l + (1 : Int32)) - (nI l + (1 : Int32)) / (6 : Int32) * (6 : Int32)) &&& (31 : Int32))) ^^^ (-1 : Int32)) = nI (a &&& (63 ^^^ lostB 4 l)) := by decide +kernel
theorem now_t : ∀ a, a < 64 → ∀ l, l < 6 → (((nI a >>> (nI l &&& (31 : Int32))) &&& (1 : Int32)) = (1 : Int32) ↔ ¬ bitL a l = 0) := by decide +kernel
theorem r_now {SM : ST} {lt : Nat → Nat} (hlt : ∀ l, l < 6 → stR SM 1 l = nI (lt l) ∧ lt l ≤ 10) {k s code y : Nat} (hk : k ≤ 4) (hs : s < 64) (hcd : code < 2 ^ 31) (hy : y ≤ 4) (K : Int32 → Int32 → Option Int32) : lq4 (m_X7_isSure_L35 FU (nI s) (if k = 4 then (1 : Int32) else 0) (nI y) (nI code) SM K) FU (nI code) (nI s) (1 : Int32) (0 : Int32) = K (nI (rsN k s code y)) (if myN lt code y = true then 1 else 0) := by
  refine lq4_run (fun o => o = K (nI (rsN k s code y)) (if myN lt code y = true then 1 else 0)) y (fun i a b c d => a = nI (code / 6 ^ i) ∧ b = nI (rsN k s code i) ∧ c = (if myN lt code i = true then 1 else 0) ∧ d = nI i) ?_ ?_ FU 0 _ _ _ _ (by omega) (by have := FU_v; omega) ⟨by simp, rfl, rfl, rfl⟩
  · rintro i a b c d again hi ⟨rfl, rfl, rfl, rfl⟩
    right
    have hik : code / 6 ^ i < 2 ^ 31 := Nat.lt_of_le_of_lt (Nat.div_le_self _ _) (by omega)
    have hl := dg_lt code i
    have ha := rsN_lt (k := k) (code := code) hs i
    have hll := hlt _ hl
    unfold m_X7_isSure_L35
    rw [if_neg (nI_ge hi (by omega))]
    simp only [jn1, jn2, nm]
    rw [mod6 hik, div6 hik, show code / 6 ^ i % 6 = dg code i from rfl, Nat.div_div_eq_div_mul, ← Nat.pow_succ, show nI i + (1 : Int32) = nI (i + 1) from nI_add i 1]
    have hnow : ∀ (w : Int32), (if ((nI (rsN k s code i) >>> (nI (dg code i) &&& (31 : Int32))) &&& (1 : Int32)) = (1 : Int32) then (if (if k = 4 then (1 : Int32) else 0) = (0 : Int32) then again (nI (code / 6 ^ (i + 1))) ((nI (rsN k s code i) &&& (((1 : Int32) <<< (nI (dg code i) &&& (31 : Int32))) ^^^ (-1 : Int32))) &&& (-1 : Int32)) w (nI (i + 1)) else again (nI (code / 6 ^ (i + 1))) ((nI (rsN k s code i) &&& (((1 : Int32) <<< (nI (dg code i) &&& (31 : Int32))) ^^^ (-1 : Int32))) &&& (((1 : Int32) <<< (((nI (dg code i) + (1 : Int32)) - (nI (dg code i) + (1 : Int32)) / (6 : Int32) * (6 : Int32)) &&& (31 : Int32))) ^^^ (-1 : Int32))) w (nI (i + 1))) else again (nI (code / 6 ^ (i + 1))) ((nI (rsN k s code i) &&& (-1 : Int32)) &&& (-1 : Int32)) w (nI (i + 1))) = again (nI (code / 6 ^ (i + 1))) (nI (rsN k s code (i + 1))) w (nI (i + 1)) := by
      intro w
      show _ = again _ (nI (lsS k (rsN k s code i) (dg code i))) w _
      by_cases hb : bitL (rsN k s code i) (dg code i) = 0
      · rw [if_neg (fun q => (now_t _ ha _ hl).mp q hb), now_a _ ha, now_a _ ha, lsS, if_pos hb]
      · rw [if_pos ((now_t _ ha _ hl).mpr hb), lsS, if_neg hb]
        by_cases h4 : k = 4
        · rw [if_pos h4, if_neg one0, now_c _ ha _ hl, h4]
        · rw [if_neg h4, if_pos rfl, now_b _ ha _ hl, lostB, if_neg h4]
    refine ⟨_, _, _, _, ⟨rfl, rfl, rfl, rfl⟩, ?_⟩
    rw [← hnow]
    have hB : ∀ (P : Prop) [Decidable P] (A B C : Option Int32), (if P then (if (1 : Int32) = 0 then C else B) else (if (0 : Int32) = 0 then A else B)) = if P then B else A := by
      intro P _ A B C
      by_cases h : P
      · rw [if_pos h, if_pos h, if_neg one0]
      · rw [if_neg h, if_neg h, if_pos rfl]
    by_cases hm : myN lt code i = true
    · have hc1 : ¬ (if myN lt code i = true then (1 : Int32) else 0) = 0 := by rw [if_pos hm]; exact one0
      rw [if_neg hc1, inB_nI hl (by decide), gd_true, rd_nI (show dg code i < 2 ^ 31 by omega), hll.1]
      by_cases hz : lt (dg code i) = 0
      · rw [if_pos (show nI (lt (dg code i)) ≤ (0 : Int32) from nI_le (b := 0) (by omega) (by decide)), show myN lt code (i + 1) = false by simp [myN, hz]]
        by_cases h : ((nI (rsN k s code i) >>> (nI (dg code i) &&& (31 : Int32))) &&& (1 : Int32)) = (1 : Int32)
        · simp only [if_pos h, if_neg one0]; rfl
        · simp only [if_neg h]; rfl
      · rw [if_neg (show ¬ nI (lt (dg code i)) ≤ (0 : Int32) from nI_ge (a := 0) (by omega) (by omega)), show myN lt code (i + 1) = true by simp [myN, hz, hm]]
        by_cases h : ((nI (rsN k s code i) >>> (nI (dg code i) &&& (31 : Int32))) &&& (1 : Int32)) = (1 : Int32)
        · simp only [if_pos h, if_neg one0]; rfl
        · simp only [if_neg h]; rfl
    · have hc1 : (if myN lt code i = true then (1 : Int32) else 0) = 0 := by rw [if_neg hm]
      have hm0 : myN lt code i = false := by simpa using hm
      rw [if_pos hc1, show myN lt code (i + 1) = false by simp [myN, hm0]]
      by_cases h : ((nI (rsN k s code i) >>> (nI (dg code i) &&& (31 : Int32))) &&& (1 : Int32)) = (1 : Int32)
      · simp only [if_pos h, if_neg one0]; rfl
      · simp only [if_neg h]; rfl
  · rintro a b c d again ⟨rfl, rfl, rfl, rfl⟩
    unfold m_X7_isSure_L35
    rw [if_pos (nI_le (Nat.le_refl y) (by omega))]
theorem r_isSure {SM : ST} {lt : Nat → Nat} (hlt : ∀ l, l < 6 → stR SM 1 l = nI (lt l) ∧ lt l ≤ 10) {k s y : Nat} (hk : k ≤ 4) (hs : s < 64) (hy : y ≤ 4) : (sr k lt y s ∧ m_X7_isSure FU (nI s) (if k = 4 then (1 : Int32) else 0) (nI y) SM = some 1) ∨ (¬ sr k lt y s ∧ m_X7_isSure FU (nI s) (if k = 4 then (1 : Int32) else 0) (nI y) SM = some 0) := by
  have h6 := six_le (show y ≤ 5 by omega)
  unfold m_X7_isSure
  refine lq2_run (fun o => (sr k lt y s ∧ o = some 1) ∨ (¬ sr k lt y s ∧ o = some 0)) (6 ^ y) (fun i a b => b = nI i ∧ ((a = 1 ∧ ∀ code, code < i → myN lt code y = true → rsN k s code y ≠ 0) ∨ (a = 0 ∧ ¬ sr k lt y s))) ?_ ?_ FU 0 _ _ (Nat.zero_le _) (by have := FU_v; omega) ⟨rfl, Or.inl ⟨rfl, fun code h => by omega⟩⟩
  · rintro i a b again hi ⟨rfl, hab⟩
    unfold m_X7_isSure_L6
    rw [show (6 : Int32) = nI 6 from rfl, r_power 6 (by omega), bd_some, if_neg (nI_ge hi (by omega))]
    rcases hab with ⟨rfl, hal⟩ | ⟨rfl, hno⟩
    · right
      rw [if_neg one0]
      simp only [jn1, jn2, nm]
      rw [r_now hlt hk hs (show i < 2 ^ 31 by omega) hy, show nI i + (1 : Int32) = nI (i + 1) from nI_add i 1]
      have hr := rsN_lt (k := k) (code := i) hs y
      by_cases hm : myN lt i y = true
      · rw [if_pos hm, if_neg one0]
        by_cases h0 : rsN k s i y = 0
        · rw [h0, if_pos n0_0]
          exact ⟨_, _, ⟨rfl, Or.inr ⟨rfl, fun q => (sr_codes y s).mp q i hi hm h0⟩⟩, rfl⟩
        · rw [if_neg (show ¬ nI (rsN k s i y) = (0 : Int32) from nI_ne (b := 0) (by omega) (by decide) h0)]
          refine ⟨_, _, ⟨rfl, Or.inl ⟨rfl, fun code hc hm2 => ?_⟩⟩, rfl⟩
          rcases Nat.lt_or_ge code i with q | q
          · exact hal code q hm2
          · rw [show code = i by omega]; exact h0
      · rw [if_neg hm, if_pos rfl]
        refine ⟨_, _, ⟨rfl, Or.inl ⟨rfl, fun code hc hm2 => ?_⟩⟩, rfl⟩
        rcases Nat.lt_or_ge code i with q | q
        · exact hal code q hm2
        · rw [show code = i by omega] at hm2; exact absurd hm2 hm
    · left
      rw [if_pos rfl]
      exact Or.inr ⟨hno, rfl⟩
  · rintro a b again ⟨rfl, hab⟩
    unfold m_X7_isSure_L6
    rw [show (6 : Int32) = nI 6 from rfl, r_power 6 (by omega), bd_some, if_pos (nI_le (Nat.le_refl _) (by omega))]
    rcases hab with ⟨rfl, hal⟩ | ⟨rfl, hno⟩
    · exact Or.inl ⟨(sr_codes y s).mpr hal, rfl⟩
    · exact Or.inr ⟨hno, rfl⟩
/-- the first set of m names that is sure -/
def fS (P : Nat → Bool) (m : Nat) : Nat → Nat → Option Nat
  | 0, _ => none
  | j + 1, s => if pop s = m ∧ P s = true then some s else fS P m j (s + 1)
theorem fS_lt {P : Nat → Bool} {m : Nat} : ∀ j s r, fS P m j s = some r → r < s + j ∧ pop r = m
  | 0, s, r, h => by cases h
  | j + 1, s, r, h => by
    unfold fS at h
    split at h
    · next q => cases h; exact ⟨by omega, q.1⟩
    · have := fS_lt j (s + 1) r h
      exact ⟨by omega, this.2⟩
def fM (P : Nat → Bool) : Nat → Nat → Option (Nat × Nat)
  | 0, _ => none
  | j + 1, m => (fS P m 63 1).elim (fM P j (m + 1)) (fun s => some (m, s))
theorem d_few1 {SD : ST} {P : Nat → Bool} {k y m : Nat} (hm : m ≤ 6) (hP : ∀ s, s < 64 → m_X1_isLeftForSure FU 8 (nI k) (nI s) (nI y) SD = some (if P s = true then 1 else 0)) (K : Option Int32) : ∀ j N s, s + j = 64 → j < N → lq1 (m_X1_fewestSure_L13 FU (nI k) (nI y) (nI m) SD K) N (nI s) = (fS P m j s).elim K (fun r => some (nI r)) := by
  intro j
  induction j with
  | zero =>
    intro N s h1 h2
    match N, h2 with
    | N + 1, _ =>
      rw [lq1_s]
      unfold m_X1_fewestSure_L13
      rw [if_pos (show (64 : Int32) ≤ nI s from nI_le (a := 64) (by omega) (by omega))]; rfl
  | succ j ih =>
    intro N s h1 h2
    match N, h2 with
    | N + 1, h2 =>
      rw [lq1_s]
      have hag := ih N (s + 1) (by omega) (by omega)
      obtain ⟨ag, eag⟩ : ∃ g, g = lq1 (m_X1_fewestSure_L13 FU (nI k) (nI y) (nI m) SD K) N := ⟨_, rfl⟩
      rw [← eag] at hag ⊢
      have hp := pop_le s
      unfold m_X1_fewestSure_L13
      rw [if_neg (show ¬ (64 : Int32) ≤ nI s from nI_ge (b := 64) (by omega) (by decide)), bitCount32 FU s (by omega), bd_some]
      simp only [jn0, nm]
      rw [show nI s + (1 : Int32) = nI (s + 1) from nI_add s 1, hag, hP s (by omega), bd_some]
      rw [fS]
      by_cases h : pop s = m
      · rw [if_pos (show nI (pop s) = nI m by rw [h])]
        by_cases hq : P s = true
        · rw [if_pos hq, if_neg one0, if_pos ⟨h, hq⟩]; rfl
        · rw [if_neg hq, if_pos rfl, if_neg (fun q => hq q.2)]
      · rw [if_neg (nI_ne (by omega) (by omega) h), if_neg (fun q => h q.1)]
theorem d_few {SD : ST} {P : Nat → Bool} {k y : Nat} (hk : k ≤ 4) (hP : ∀ s, s < 64 → m_X1_isLeftForSure FU 8 (nI k) (nI s) (nI y) SD = some (if P s = true then 1 else 0)) : ∀ j N m, m + j = nam k + 1 → j < N → lq1 (m_X1_fewestSure_L2 FU (nI k) (nI y) SD) N (nI m) = (fM P j m).elim (some (-1)) (fun r => some (nI r.2)) := by
  have hnm : nam k ≤ 6 := by unfold nam; split <;> (try split) <;> omega
  intro j
  induction j with
  | zero =>
    intro N m h1 h2
    match N, h2 with
    | N + 1, _ =>
      rw [lq1_s]
      unfold m_X1_fewestSure_L2
      rw [d_namesOf FU k hk, bd_some, if_pos (nI_lt (by omega) (by omega))]; rfl
  | succ j ih =>
    intro N m h1 h2
    match N, h2 with
    | N + 1, h2 =>
      rw [lq1_s]
      have hag := ih N (m + 1) (by omega) (by omega)
      obtain ⟨ag, eag⟩ : ∃ g, g = lq1 (m_X1_fewestSure_L2 FU (nI k) (nI y) SD) N := ⟨_, rfl⟩
      rw [← eag] at hag ⊢
      unfold m_X1_fewestSure_L2
      rw [d_namesOf FU k hk, bd_some, if_neg (show ¬ nI (nam k) < nI m from fun q => absurd (nI_le (a := m) (b := nam k) (by omega) (by omega)) (Int32.not_le.mpr q))]
      simp only [jn0, nm]
      rw [show nI m + (1 : Int32) = nI (m + 1) from nI_add m 1, hag]
      have := d_few1 (m := m) (by omega) hP ((fM P j (m + 1)).elim (some (-1)) (fun r => some (nI r.2))) 63 FU 1 (by omega) (by have := FU_v; omega)
      refine Eq.trans this ?_
      rw [fM]
      cases fS P m 63 1 <;> rfl
theorem r_few1 {S : ST} {P : Nat → Bool} {k y m : Nat} {x3 : Int32} (hm : m ≤ 6) (hP : ∀ s, s < 64 → m_X7_isSure FU (nI s) (if k = 4 then (1 : Int32) else 0) (nI y) S = some (if P s = true then 1 else 0)) (hk : k ≤ 4) (K : Option (Int32 × ST)) (J : Int32 → Int32 → Option (Int32 × ST)) : ∀ j N s, s + j = 64 → j < N → lq1 (m_X7_sure_L88 FU (nI k) (nI y) x3 (nI m) S K J) N (nI s) = (fS P m j s).elim K (fun r => J (nI m) (nI r)) := by
  intro j
  induction j with
  | zero =>
    intro N s h1 h2
    match N, h2 with
    | N + 1, _ =>
      rw [lq1_s]
      unfold m_X7_sure_L88
      rw [if_pos (show (64 : Int32) ≤ nI s from nI_le (a := 64) (by omega) (by omega))]; rfl
  | succ j ih =>
    intro N s h1 h2
    match N, h2 with
    | N + 1, h2 =>
      rw [lq1_s]
      have hag := ih N (s + 1) (by omega) (by omega)
      obtain ⟨ag, eag⟩ : ∃ g, g = lq1 (m_X7_sure_L88 FU (nI k) (nI y) x3 (nI m) S K J) N := ⟨_, rfl⟩
      rw [← eag] at hag ⊢
      have hp := pop_le s
      unfold m_X7_sure_L88
      rw [if_neg (show ¬ (64 : Int32) ≤ nI s from nI_ge (b := 64) (by omega) (by decide)), r_ones (by omega) FU_100, bd_some]
      simp only [jn0, jn1, nm]
      rw [show nI s + (1 : Int32) = nI (s + 1) from nI_add s 1, hag]
      have h4 : ∀ F : Int32 → Option (Int32 × ST), (if nI k = (4 : Int32) then bd (m_X7_isSure FU (nI s) (1 : Int32) (nI y) S) F else bd (m_X7_isSure FU (nI s) (0 : Int32) (nI y) S) F) = F (if P s = true then 1 else 0) := by
        intro F
        have := hP s (by omega)
        by_cases h : k = 4
        · rw [if_pos h] at this
          rw [if_pos (show nI k = (4 : Int32) by rw [h]; rfl), this]; rfl
        · rw [if_neg h] at this
          rw [if_neg (show ¬ nI k = (4 : Int32) from nI_ne (b := 4) (by omega) (by decide) h), this]; rfl
      rw [h4]
      rw [fS]
      by_cases h : pop s = m
      · rw [if_pos (show nI (pop s) = nI m by rw [h])]
        by_cases hq : P s = true
        · rw [if_pos hq, if_neg one0, if_pos ⟨h, hq⟩]; rfl
        · rw [if_neg hq, if_pos rfl, if_neg (fun q => hq q.2)]
      · rw [if_neg (nI_ne (by omega) (by omega) h), if_neg (fun q => h q.1)]
theorem r_few {S : ST} {P : Nat → Bool} {k y : Nat} {x3 : Int32} (hk : k = 0 ∨ k = 3 ∨ k = 4) (hP : ∀ s, s < 64 → m_X7_isSure FU (nI s) (if k = 4 then (1 : Int32) else 0) (nI y) S = some (if P s = true then 1 else 0)) (J : Int32 → Int32 → Option (Int32 × ST)) : ∀ j N m, m + j = nam k + 1 → j < N → lq1 (m_X7_sure_L71 FU (nI k) (nI y) x3 S J) N (nI m) = (fM P j m).elim (some (-1, S)) (fun r => J (nI r.1) (nI r.2)) := by
  have hk4 : k ≤ 4 := by omega
  have hnm : nam k ≤ 6 := by unfold nam; split <;> (try split) <;> omega
  have hna : ∀ F : Int32 → Option (Int32 × ST), (if nI k = (0 : Int32) then F 2 else F 3) = F (nI (nam k)) := by
    intro F
    rcases hk with rfl | rfl | rfl <;> rfl
  intro j
  induction j with
  | zero =>
    intro N m h1 h2
    match N, h2 with
    | N + 1, _ =>
      rw [lq1_s]
      unfold m_X7_sure_L71
      simp only [jn1]
      rw [hna (fun v => if v < nI m then _ else _), if_pos (nI_lt (by omega) (by omega))]; rfl
  | succ j ih =>
    intro N m h1 h2
    match N, h2 with
    | N + 1, h2 =>
      rw [lq1_s]
      have hag := ih N (m + 1) (by omega) (by omega)
      obtain ⟨ag, eag⟩ : ∃ g, g = lq1 (m_X7_sure_L71 FU (nI k) (nI y) x3 S J) N := ⟨_, rfl⟩
      rw [← eag] at hag ⊢
      unfold m_X7_sure_L71
      simp only [jn1]
      rw [hna (fun v => if v < nI m then _ else _), if_neg (show ¬ nI (nam k) < nI m from fun q => absurd (nI_le (a := m) (b := nam k) (by omega) (by omega)) (Int32.not_le.mpr q))]
      simp only [jn0, nm]
      rw [show nI m + (1 : Int32) = nI (m + 1) from nI_add m 1, hag]
      have := r_few1 (x3 := x3) (m := m) (by omega) hP hk4 ((fM P j (m + 1)).elim (some (-1, S)) (fun r => J (nI r.1) (nI r.2))) J 63 FU 1 (by omega) (by have := FU_v; omega)
      refine Eq.trans this ?_
      rw [fM]
      cases fS P m 63 1 <;> rfl
theorem fM_ok {P : Nat → Bool} : ∀ j m r, fM P j m = some r → r.2 < 64 ∧ pop r.2 = r.1 ∧ r.1 ≤ 6
  | 0, m, r, h => by cases h
  | j + 1, m, r, h => by
    rw [fM] at h
    cases e : fS P m 63 1 with
    | none => rw [e] at h; exact fM_ok j (m + 1) r h
    | some s =>
      rw [e] at h
      have := fS_lt 63 1 s e
      have h2 : some (m, s) = some r := h
      cases h2
      exact ⟨by simpa using this.1, this.2, by rw [← this.2]; exact pop_le s⟩
theorem op_sure {t : Nat} {SD SM : ST} (hR : Rel t SD SM) (x1 x2 x3 : Int32) : ∃ (r : Int32) (SD1 : ST) (SM1 : ST), m_X6_sure FU x1 x2 x3 SD = some (r, SD1) ∧ m_X7_sure FU x1 x2 x3 SM = some (r, SM1) ∧ Rel (t + 1) SD1 SM1 := by
  have hup := hR.up
  obtain ⟨pn, n, kd, tg, rm, lt, c, am, lr, su, mv, hP, hA, hC, hS, hI⟩ := hR
  unfold m_X6_sure m_X7_sure
  simp only [jn0, jn1]
  by_cases hkk : ¬ (x1 = 0 ∨ x1 = 3 ∨ x1 = 4)
  · have q0 : ¬ x1 = 0 := fun q => hkk (Or.inl q)
    have q3 : ¬ x1 = 3 := fun q => hkk (Or.inr (Or.inl q))
    have q4 : ¬ x1 = 4 := fun q => hkk (Or.inr (Or.inr q))
    rw [if_neg q0, if_neg q3, if_neg q4, if_neg q0, if_neg q3, if_neg q4]
    exact ⟨_, _, _, rfl, rfl, hup⟩
  replace hkk := Classical.not_not.mp hkk
  have e3 : ∀ (A B : Option (Int32 × ST)), (if x1 = (0 : Int32) then A else (if x1 = (3 : Int32) then A else (if x1 = (4 : Int32) then A else B))) = A := by
    intro A B
    rcases hkk with rfl | rfl | rfl <;> rfl
  rw [e3, e3, if_neg one0]
  obtain ⟨k, hk, rfl⟩ : ∃ k, (k = 0 ∨ k = 3 ∨ k = 4) ∧ x1 = nI k := by
    rcases hkk with h | h | h
    · exact ⟨0, Or.inl rfl, h⟩
    · exact ⟨3, Or.inr (Or.inl rfl), h⟩
    · exact ⟨4, Or.inr (Or.inr rfl), h⟩
  have hk4 : k ≤ 4 := by omega
  clear e3 hkk
  rcases in_0_4 FU x2 with ⟨h3, h4⟩ | ⟨y, hy, rfl, h3, h4⟩
  · rw [h3, h4]; exact ⟨_, _, _, rfl, rfl, hup⟩
  rw [h3, h4, bd_some, bd_some, if_neg one0, if_neg one0]
  rcases in_0_1 FU x3 with ⟨h5, h6⟩ | ⟨p, hp, rfl, h5, h6⟩
  · rw [h5, h6]; exact ⟨_, _, _, rfl, rfl, hup⟩
  rw [h5, h6, bd_some, bd_some, if_neg one0, if_neg one0]
  rcases sl_cases FU hA.1.1.2.1 hA.2.1.2.1 hA.2.2.1.2.1 with ⟨h0, h7, h8⟩ | ⟨h0, h7, h8⟩
  · rw [h7, h8]; exact ⟨_, _, _, rfl, rfl, hup⟩
  rw [h7, h8, bd_some, bd_some, if_neg one0, if_pos rfl, hC.2.2.2.2.1, hC.2.2.2.2.2.1]
  have hsu := hC.2.2.2.2.2.2.1
  by_cases h30 : su = 30
  · rw [h30, if_neg (show ¬ nI 30 < (30 : Int32) by decide), if_pos (show nI 30 = (30 : Int32) from rfl)]
    exact ⟨_, _, _, rfl, rfl, hup⟩
  rw [if_pos (show nI su < (30 : Int32) from nI_lt (b := 30) (by omega) (by decide)), if_neg (show ¬ nI su = (30 : Int32) from nI_ne (b := 30) (by omega) (by decide) h30), show nI su + (1 : Int32) = nI (su + 1) from nI_add su 1]
  simp only [nm, jn2]
  have hsm := hA.1.2.2.2.2 h0
  have hex : ∃ l, l < 6 ∧ lt l ≠ 0 := by
    apply Classical.byContradiction
    intro hno
    have : sumN lt 6 = 0 := sumN_zero 6 (fun i hi => Classical.byContradiction (fun q => hno ⟨i, hi, q⟩))
    omega
  let P : Nat → Bool := fun s => @decide (sr k lt y s) (Classical.propDecidable _)
  have hD1 : AD (puI SD 2 (nI (su + 1))) n kd tg rm lt := hA.2.1
  have hPd : ∀ s, s < 64 → m_X1_isLeftForSure FU 8 (nI k) (nI s) (nI y) (puI SD 2 (nI (su + 1))) = some (if P s = true then 1 else 0) := by
    intro s hs
    rcases d_left hD1 hA.1.1 hex hk4 8 y s hs (by omega) (by omega) with ⟨q1, q2⟩ | ⟨q1, q2⟩
    · rw [q2, if_pos (show P s = true from @decide_eq_true _ (Classical.propDecidable _) q1)]
    · rw [q2, if_neg (show ¬ P s = true from fun q => q1 (@of_decide_eq_true _ (Classical.propDecidable _) q))]
  have hPm : ∀ s, s < 64 → m_X7_isSure FU (nI s) (if k = 4 then (1 : Int32) else 0) (nI y) (puI SM 5 (nI (su + 1))) = some (if P s = true then 1 else 0) := by
    intro s hs
    have hlt : ∀ l, l < 6 → stR (puI SM 5 (nI (su + 1))) 1 l = nI (lt l) ∧ lt l ≤ 10 := fun l hl => ⟨hA.2.2.1.2.2.2.2 l hl, hA.1.1.2.2.2.2 l hl⟩
    rcases r_isSure hlt hk4 hs hy with ⟨q1, q2⟩ | ⟨q1, q2⟩
    · rw [q2, if_pos (show P s = true from @decide_eq_true _ (Classical.propDecidable _) q1)]
    · rw [q2, if_neg (show ¬ P s = true from fun q => q1 (@of_decide_eq_true _ (Classical.propDecidable _) q))]
  have hn1 : 1 ≤ nam k ∧ nam k ≤ 6 := by rcases hk with rfl | rfl | rfl <;> decide
  have ed : m_X1_fewestSure FU (nI k) (nI y) (puI SD 2 (nI (su + 1))) = (fM P (nam k) 1).elim (some (-1)) (fun r => some (nI r.2)) := d_few hk4 hPd (nam k) FU 1 (by omega) (by have := FU_v; omega)
  have em := fun J => r_few (x3 := nI p) hk hPm J (nam k) FU 1 (by omega) (by have := FU_v; omega)
  rw [ed]
  have hnew : Rel (t + 1) (puI SD 2 (nI (su + 1))) (puI SM 5 (nI (su + 1))) := by
    refine ⟨pn, n, kd, tg, rm, lt, c, am, lr, su + 1, mv, hP.fr rfl rfl rfl rfl, hA, ?_, hS.fr rfl rfl rfl rfl, hI.fr rfl rfl rfl rfl rfl rfl rfl rfl rfl rfl rfl rfl rfl rfl rfl rfl⟩
    exact ⟨hC.1, hC.2.1, hC.2.2.1, by have := hC.2.2.2.1; omega, rfl, rfl, by omega, hC.2.2.2.2.2.2.2⟩
  refine (show ∀ o : Option (Int32 × ST), o = (fM P (nam k) 1).elim (some (-1, (puI SM 5 (nI (su + 1))))) (fun r => if nI p = (0 : Int32) then some (nI r.1, puI SM 5 (nI (su + 1))) else some (nI r.2, puI SM 5 (nI (su + 1)))) → ∃ (r : Int32) (SD1 : ST) (SM1 : ST), _ = some (r, SD1) ∧ o = some (r, SM1) ∧ Rel (t + 1) SD1 SM1 from fun o ho => ?_) _ (em _)
  rw [ho]
  cases e : fM P (nam k) 1 with
  | none => exact ⟨_, _, _, rfl, rfl, hnew⟩
  | some r =>
    have hr := fM_ok _ _ _ e
    refine ⟨if nI p = (0 : Int32) then nI r.1 else nI r.2, puI SD 2 (nI (su + 1)), puI SM 5 (nI (su + 1)), ?_, ?_, hnew⟩
    · show (if nI r.2 = (-1 : Int32) then _ else _) = _
      rw [if_neg (nI_m1 (by omega)), bitCount32 FU r.2 hr.1, bd_some, hr.2.1]
      by_cases hp0 : nI p = (0 : Int32)
      · rw [if_pos hp0, if_pos hp0]
      · rw [if_neg hp0, if_neg hp0]
    · show (if nI p = (0 : Int32) then _ else _) = _
      by_cases hp0 : nI p = (0 : Int32)
      · rw [if_pos hp0, if_pos hp0]
      · rw [if_neg hp0, if_neg hp0]
