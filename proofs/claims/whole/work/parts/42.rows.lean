/-! rows of letters that fit what was told -/
def asTb (T : Nat → Int32) (i : Nat) (c : Nat → Nat) : Bool := decide (T i = -1) || decide (T i = nI (livM c 5))
section ROWS
variable {SD SM : ST} {n : Nat} {kd : Nat → Nat} {tg : Nat → Int32} {rm : Nat} {lt : Nat → Nat}
/-- how many rows of letters are good, from year i on, for j years -/
def gR (n : Nat) (kd : Nat → Nat) (tg : Nat → Int32) (rm : Nat) (ok : Nat → Nat → (Nat → Nat) → Bool) : Nat → Nat → (Nat → Nat) → Nat
  | _, 0, _ => 1
  | i, j + 1, c => sumN (fun l => if ok i l (passC n kd tg rm c l) = true then gR n kd tg rm ok (i + 1) j (passC n kd tg rm c l) else 0) 6
def cntL (lt : Nat → Nat) : Nat := sumN (fun l => if lt l = 0 then 0 else 1) 6
theorem cntL_le : cntL lt ≤ 6 := by
  have := sumN_le (g := fun l => if lt l = 0 then 0 else 1) (b := 1) (fun i => by split <;> omega) 6
  exact this
theorem gR_free {ok : Nat → Nat → (Nat → Nat) → Bool} : ∀ (j i : Nat) (c : Nat → Nat), (∀ i', i ≤ i' → i' < i + j → ∀ l c', l < 6 → ok i' l c' = !decide (lt l = 0)) → gR n kd tg rm ok i j c = cntL lt ^ j
  | 0, i, c, h => rfl
  | j + 1, i, c, h => by
    show sumN _ 6 = _
    rw [sumN_congr (h := fun l => (if lt l = 0 then 0 else 1) * cntL lt ^ j) 6 (fun l hl => ?_), sum_mulr, Nat.pow_succ, Nat.mul_comm]; rfl
    rw [h i (Nat.le_refl i) (by omega) l _ hl, gR_free j (i + 1) _ (fun i' h1 h2 => h i' (by omega) (by omega))]
    by_cases hz : lt l = 0
    · rw [if_pos hz, Nat.zero_mul, if_neg (by simp [hz])]
    · rw [if_neg hz, Nat.one_mul, if_pos (by simp [hz])]
theorem gR_le {ok : Nat → Nat → (Nat → Nat) → Bool} : ∀ (j i : Nat) (c : Nat → Nat), gR n kd tg rm ok i j c ≤ 6 ^ j
  | 0, i, c => Nat.le_refl 1
  | j + 1, i, c => by
    show sumN _ 6 ≤ _
    have := sumN_le (g := fun l => if ok i l (passC n kd tg rm c l) = true then gR n kd tg rm ok (i + 1) j (passC n kd tg rm c l) else 0) (b := 6 ^ j) (fun l => by
      split
      · exact gR_le j (i + 1) _
      · exact Nat.zero_le _) 6
    rw [Nat.pow_succ, Nat.mul_comm]
    exact this
theorem d_asTold {T : Nat → Int32} {c : Nat → Nat} (hc : OKc n c) {i : Nat} (hi : i < 5) (hT : stR SD 4 i = T i) : m_X1_isAsTold FU (lN (enc c)) (nI i) SD = some (if asTb T i c = true then 1 else 0) := by
  unfold m_X1_isAsTold m_X0_toldOf
  rw [if_neg (nn0 (show i < 100 by omega)), if_neg (show ¬ (5 : Int32) ≤ nI i from nI_ge (b := 5) hi (by decide)), inB_nI hi (by decide), gd_true, rd_nI (show i < 2 ^ 31 by omega), hT, bd_some, d_living hc.lt FU_100, bd_some]
  unfold asTb
  by_cases h : T i = -1
  · rw [if_pos h, decide_eq_true h]; rfl
  · rw [if_neg h, decide_eq_false h, Bool.false_or]
    by_cases h2 : T i = nI (livM c 5)
    · rw [if_pos h2, decide_eq_true h2]; rfl
    · rw [if_neg h2, decide_eq_false h2]; rfl
theorem d_nothing {T : Nat → Int32} {am : Nat} (ham : am ≤ 5) (hS : stI SD 8 = nI am) (hT : ∀ i, i < am → stR SD 4 i = T i) {i : Nat} (hi : i ≤ am) : ((∀ i', i ≤ i' → i' < am → T i' = -1) ∧ m_X1_nothingToldFrom FU (nI i) SD = some 1) ∨ m_X1_nothingToldFrom FU (nI i) SD = some 0 := by
  unfold m_X1_nothingToldFrom
  refine lq1_run (fun o => ((∀ i', i ≤ i' → i' < am → T i' = -1) ∧ o = some 1) ∨ o = some 0) am (fun k x => x = nI k ∧ i ≤ k ∧ ∀ i', i ≤ i' → i' < k → T i' = -1) ?_ ?_ FU i _ hi (by have := FU_v; omega) ⟨rfl, Nat.le_refl i, fun i' h1 h2 => by omega⟩
  · rintro k x again hk ⟨rfl, hik, hal⟩
    unfold m_X1_nothingToldFrom_L2 m_X0_toldOf
    rw [hS, if_neg (nI_ge hk (by omega)), if_neg (nn0 (show k < 100 by omega)), if_neg (show ¬ (5 : Int32) ≤ nI k from nI_ge (b := 5) (by omega) (by decide)), inB_nI (show k < 5 by omega) (by decide), gd_true, rd_nI (show k < 2 ^ 31 by omega), hT k hk, bd_some]
    by_cases h : T k = -1
    · rw [if_pos h, nm_eqv]
      refine Or.inr ⟨_, ⟨nI_add k 1, by omega, fun i' h1 h2 => ?_⟩, rfl⟩
      rcases Nat.lt_or_ge i' k with q | q
      · exact hal i' h1 q
      · rw [show i' = k by omega]; exact h
    · rw [if_neg h]
      exact Or.inl (Or.inr rfl)
  · rintro x again ⟨rfl, hik, hal⟩
    unfold m_X1_nothingToldFrom_L2
    rw [hS, if_pos (nI_le (Nat.le_refl am) (by omega))]
    exact Or.inl ⟨hal, rfl⟩
theorem d_letters (hA : AD SD n kd tg rm lt) (hW : WF0 n kd tg rm lt) : m_X3_lettersThatMayBurn FU SD = some (nI (cntL lt)) := by
  unfold m_X3_lettersThatMayBurn
  refine lq2_run (fun o => o = some (nI (cntL lt))) 6 (fun i a b => a = nI (sumN (fun l => if lt l = 0 then 0 else 1) i) ∧ b = nI i) ?_ ?_ FU 0 _ _ (by omega) (by have := FU_v; omega) ⟨rfl, rfl⟩
  · rintro i a b again hi ⟨rfl, rfl⟩
    right
    unfold m_X3_lettersThatMayBurn_L4
    rw [if_neg (show ¬ (6 : Int32) ≤ nI i from nI_ge (b := 6) hi (by decide)), d_mayBurn hA hW hi, bd_some]
    simp only [jn1]
    by_cases hz : lt i = 0
    · rw [if_pos hz, if_pos n0_0, nm_eqv]
      exact ⟨_, _, ⟨by rw [sumN, if_pos hz, Nat.add_zero], nI_add i 1⟩, rfl⟩
    · rw [if_neg hz, if_neg n1_0, nm_eqv, nm_eqv]
      exact ⟨_, _, ⟨by rw [sumN, if_neg hz]; exact nI_add _ 1, nI_add i 1⟩, rfl⟩
  · rintro a b again ⟨rfl, rfl⟩
    unfold m_X3_lettersThatMayBurn_L4
    rw [if_pos (show (6 : Int32) ≤ nI 6 by decide)]
    rfl
theorem d_pow (a : Nat) {y : Nat} (hy : y ≤ 10) : m_X6_power FU (nI a) (nI y) = some (nI (a ^ y)) := by
  unfold m_X6_power
  refine lq2_run (fun o => o = some (nI (a ^ y))) y (fun i x z => x = nI (a ^ i) ∧ z = nI i) ?_ ?_ FU 0 _ _ (by omega) (by have := FU_v; omega) ⟨by rw [Nat.pow_zero]; rfl, rfl⟩
  · rintro i x z again hi ⟨rfl, rfl⟩
    right
    unfold m_X6_power_L4
    rw [if_neg (nI_ge hi (by omega)), nm_eqv, nm_eqv, pk_mul]
    exact ⟨_, _, ⟨by rw [Nat.pow_succ], nI_add i 1⟩, rfl⟩
  · rintro x z again ⟨rfl, rfl⟩
    unfold m_X6_power_L4
    rw [if_pos (nI_le (Nat.le_refl y) (by omega))]
theorem d_rows (hA : AD SD n kd tg rm lt) (hW : WF0 n kd tg rm lt) {T : Nat → Int32} {am : Nat} (ham : am ≤ 5) (hS : stI SD 8 = nI am) (hT : ∀ i, i < am → stR SD 4 i = T i) {ok : Nat → Nat → (Nat → Nat) → Bool} {sy sl : Int32}
    (P1 : ∀ i, i < am → nI i = sy → ∃ l0, l0 < 6 ∧ sl = nI l0 ∧ ∀ l c', l < 6 → ok i l c' = (decide (l = l0) && asTb T i c'))
    (P2 : ∀ i, i < am → nI i ≠ sy → ∀ l c', l < 6 → ok i l c' = (!decide (lt l = 0) && asTb T i c'))
    (P3 : ∀ i, i < am → ¬ nI i ≤ sy → ∀ i', i ≤ i' → i' < am → nI i' ≠ sy) :
    ∀ (d j i : Nat) (c : Nat → Nat), i + j = am → OKc n c → j < d → d ≤ 8 → m_X1_rowsFrom FU d (lN (enc c)) (nI i) sy sl SD = some (nI (if i = 0 ∨ asTb T (i - 1) c = true then gR n kd tg rm ok i j c else 0)) := by
  have hn := hW.1
  intro d
  induction d with
  | zero => intro j i c _ _ h; omega
  | succ d ih =>
    intro j i c hij hc hj hd
    show m_X1_rowsFrom_B FU (m_X1_rowsFrom FU d) (lN (enc c)) (nI i) sy sl SD = _
    -- what comes after the look at the year before
    have hmain : ∀ o : Option Int32, o = (if nI i < (stI SD 8) then jn0 ((if nI i = sy then bd (m_X0_burntDown FU (lN (enc c)) sl SD) (fun v_38 => bd (m_X0_rumoursGrown FU v_38 SD) (fun v_40 => bd (m_X1_rowsFrom FU d v_40 ((nI i + (1 : Int32))) sy sl SD) (fun v_42 => some v_42))) else jn2 (fun (x6_5 : Int32) (x7_6 : Int32) => (if x7_6 ≤ (0 : Int32) then some x6_5 else bd (m_X0_rumoursGrown FU (lN (enc c)) SD) (fun v_10 => bd (m_X1_rowsFrom FU d v_10 ((nI i + (1 : Int32))) sy sl SD) (fun v_12 => nm ((x6_5 + (x7_6 * v_12))) (fun x6_13 => some x6_13))))) (fun j_7 => lq3 (m_X1_rowsFrom_L112 FU (m_X1_rowsFrom FU d) (lN (enc c)) (nI i) sy sl SD j_7) FU (0 : Int32) (0 : Int32) (0 : Int32)))) (fun j_3 => (if nI i ≤ sy then j_3 else bd (m_X1_nothingToldFrom FU (nI i) SD) (fun v_45 => (if v_45 = (0 : Int32) then j_3 else bd (m_X3_lettersThatMayBurn FU SD) (fun v_48 => bd (m_X6_power FU v_48 (((stI SD 8) - nI i))) (fun v_50 => some v_50)))))) else some (1 : Int32)) → o = some (nI (gR n kd tg rm ok i j c)) := by
      intro o ho
      rw [hS] at ho
      cases j with
      | zero =>
        rw [if_neg (show ¬ nI i < nI am from fun q => absurd (nI_le (a := am) (b := i) (by omega) (by omega)) (Int32.not_le.mpr q))] at ho
        exact ho
      | succ j =>
        rw [if_pos (nI_lt (by omega) (by omega))] at ho
        have hi1 : nI i + (1 : Int32) = nI (i + 1) := nI_add i 1
        have hrec : ∀ c', OKc n c' → m_X1_rowsFrom FU d (lN (enc c')) (nI (i + 1)) sy sl SD = some (nI (if asTb T i c' = true then gR n kd tg rm ok (i + 1) j c' else 0)) := fun c' hc' => by
          rw [ih j (i + 1) c' (by omega) hc' (by omega) (by omega)]
          rw [Nat.add_sub_cancel]
          by_cases h : asTb T i c' = true
          · rw [if_pos (Or.inr h), if_pos h]
          · rw [if_neg (fun q => q.elim (fun z => by omega) h), if_neg h]
        rw [hi1] at ho
        have hj3 : ∀ o : Option Int32, o = ((if nI i = sy then bd (m_X0_burntDown FU (lN (enc c)) sl SD) (fun v_38 => bd (m_X0_rumoursGrown FU v_38 SD) (fun v_40 => bd (m_X1_rowsFrom FU d v_40 (nI (i + 1)) sy sl SD) (fun v_42 => some v_42))) else jn2 (fun (x6_5 : Int32) (x7_6 : Int32) => (if x7_6 ≤ (0 : Int32) then some x6_5 else bd (m_X0_rumoursGrown FU (lN (enc c)) SD) (fun v_10 => bd (m_X1_rowsFrom FU d v_10 (nI (i + 1)) sy sl SD) (fun v_12 => nm ((x6_5 + (x7_6 * v_12))) (fun x6_13 => some x6_13))))) (fun j_7 => lq3 (m_X1_rowsFrom_L112 FU (m_X1_rowsFrom FU d) (lN (enc c)) (nI i) sy sl SD j_7) FU (0 : Int32) (0 : Int32) (0 : Int32)))) → o = some (nI (gR n kd tg rm ok i (j + 1) c)) := by
          intro o ho
          rw [ho]
          by_cases hsy : nI i = sy
          · obtain ⟨l0, hl0, hsl, hok⟩ := P1 i (by omega) hsy
            rw [if_pos hsy, hsl, d_burntDown hA hW hc hl0 FU_100, bd_some, d_rumoursGrown hA hW (burnC_ok hW hc hl0) FU_100, bd_some, show enc (grA kd rm (burnC n kd tg c l0) n) = enc (passC n kd tg rm c l0) from rfl, ← hsl, hrec _ (passC_ok hW hc hl0), bd_some]
            congr 2
            show _ = sumN _ 6
            have hE : ∀ N, N ≤ 6 → sumN (fun l => if ok i l (passC n kd tg rm c l) = true then gR n kd tg rm ok (i + 1) j (passC n kd tg rm c l) else 0) N = if l0 < N then (if asTb T i (passC n kd tg rm c l0) = true then gR n kd tg rm ok (i + 1) j (passC n kd tg rm c l0) else 0) else 0 := by
              intro N
              induction N with
              | zero => intro _; rfl
              | succ N ihN =>
                intro hN
                rw [sumN, ihN (by omega), hok N _ (by omega)]
                by_cases e : N = l0
                · subst e
                  rw [if_neg (Nat.lt_irrefl N), if_pos (Nat.lt_succ_self N), decide_eq_true rfl, Bool.true_and, Nat.zero_add]
                · rw [decide_eq_false e, Bool.false_and, if_neg (show ¬ false = true by decide), Nat.add_zero]
                  by_cases e2 : l0 < N
                  · rw [if_pos e2, if_pos (show l0 < N + 1 by omega)]
                  · rw [if_neg e2, if_neg (show ¬ l0 < N + 1 by omega)]
            rw [hE 6 (Nat.le_refl 6), if_pos hl0]
          · rw [if_neg hsy]
            simp only [jn2]
            obtain ⟨R, hRe⟩ : ∃ R : (Nat → Nat) → Nat, ∀ c', R c' = if asTb T i c' = true then gR n kd tg rm ok (i + 1) j c' else 0 := ⟨fun c' => if asTb T i c' = true then gR n kd tg rm ok (i + 1) j c' else 0, fun _ => rfl⟩
            have hrecR : ∀ c', OKc n c' → m_X1_rowsFrom FU d (lN (enc c')) (nI (i + 1)) sy sl SD = some (nI (R c')) := fun c' hc' => by rw [hRe]; exact hrec c' hc'
            have hterm : ∀ l, l < 6 → (if ok i l (passC n kd tg rm c l) = true then gR n kd tg rm ok (i + 1) j (passC n kd tg rm c l) else 0) = (if lt l = 0 ∨ full c l = 0 then 0 else R (passC n kd tg rm c l)) + (if lt l ≠ 0 ∧ full c l = 0 then 1 else 0) * R (grA kd rm c n) := by
              intro l hl
              rw [P2 i (by omega) hsy l _ hl]
              have q1 : (if asTb T i (passC n kd tg rm c l) = true then gR n kd tg rm ok (i + 1) j (passC n kd tg rm c l) else 0) = R (passC n kd tg rm c l) := (hRe _).symm
              by_cases hz : lt l = 0
              · rw [if_pos (show lt l = 0 ∨ full c l = 0 from Or.inl hz), if_neg (show ¬ (lt l ≠ 0 ∧ full c l = 0) from fun q => q.1 hz), Nat.zero_mul, decide_eq_true hz]; rfl
              · rw [decide_eq_false hz, Bool.not_false, Bool.true_and, q1]
                by_cases hf : full c l = 0
                · rw [if_pos (show lt l = 0 ∨ full c l = 0 from Or.inr hf), if_pos (show lt l ≠ 0 ∧ full c l = 0 from ⟨hz, hf⟩), Nat.one_mul, Nat.zero_add, passC, burn_idle hn hf]
                · rw [if_neg (show ¬ (lt l = 0 ∨ full c l = 0) from fun q => q.elim hz hf), if_neg (show ¬ (lt l ≠ 0 ∧ full c l = 0) from fun q => hf q.2), Nat.zero_mul, Nat.add_zero]
            have hres : gR n kd tg rm ok i (j + 1) c = sumN (fun l => if lt l = 0 ∨ full c l = 0 then 0 else R (passC n kd tg rm c l)) 6 + sumN (fun l => if lt l ≠ 0 ∧ full c l = 0 then 1 else 0) 6 * R (grA kd rm c n) := by
              show sumN _ 6 = _
              rw [sumN_congr 6 hterm, sum_split, sum_mulr]
            rw [hres]
            refine lq3_run (fun o => o = _) 6 (fun k x z w => x = nI (sumN (fun l => if lt l = 0 ∨ full c l = 0 then 0 else R (passC n kd tg rm c l)) k) ∧ z = nI (sumN (fun l => if lt l ≠ 0 ∧ full c l = 0 then 1 else 0) k) ∧ w = nI k) ?_ ?_ FU 0 _ _ _ (by omega) (by have := FU_v; omega) ⟨rfl, rfl, rfl⟩
            · rintro k x z w again hk ⟨rfl, rfl, rfl⟩
              right
              have hfl := full_le c k
              unfold m_X1_rowsFrom_L112
              rw [if_neg (show ¬ (6 : Int32) ≤ nI k from nI_ge (b := 6) hk (by decide)), d_mayBurn hA hW hk, bd_some]
              simp only [jn2, nm]
              by_cases hz : lt k = 0
              · rw [if_pos hz, if_pos n0_0]
                exact ⟨_, _, _, ⟨by rw [sumN, if_pos (Or.inl hz), Nat.add_zero], by rw [sumN, if_neg (fun q => q.1 hz), Nat.add_zero], nI_add k 1⟩, rfl⟩
              · rw [if_neg hz, if_neg n1_0, s_fullness FU hc.lt hk, bd_some]
                by_cases hf : full c k = 0
                · rw [if_pos (show nI (full c k) = (0 : Int32) by rw [hf]; rfl)]
                  exact ⟨_, _, _, ⟨by rw [sumN, if_pos (Or.inr hf), Nat.add_zero], by rw [sumN, if_pos ⟨hz, hf⟩]; exact nI_add _ 1, nI_add k 1⟩, rfl⟩
                · rw [if_neg (show ¬ nI (full c k) = (0 : Int32) from nI_ne (b := 0) (by omega) (by decide) hf), d_burntDown hA hW hc hk FU_100, bd_some, d_rumoursGrown hA hW (burnC_ok hW hc hk) FU_100, bd_some, show enc (grA kd rm (burnC n kd tg c k) n) = enc (passC n kd tg rm c k) from rfl, hi1, hrecR _ (passC_ok hW hc hk), bd_some, nI_add]
                  exact ⟨_, _, _, ⟨by rw [sumN, if_neg (fun q => q.elim hz hf)], by rw [sumN, if_neg (fun q => hf q.2), Nat.add_zero], nI_add k 1⟩, rfl⟩
            · rintro x z w again ⟨rfl, rfl, rfl⟩
              unfold m_X1_rowsFrom_L112
              rw [if_pos (show (6 : Int32) ≤ nI 6 by decide)]
              have hi60 : sumN (fun l => if lt l ≠ 0 ∧ full c l = 0 then 1 else 0) 6 ≤ 6 := sumN_le (b := 1) (fun l => by split <;> omega) 6
              dsimp only
              generalize sumN (fun l => if lt l ≠ 0 ∧ full c l = 0 then 1 else 0) 6 = idle at hi60 ⊢
              by_cases hz : idle = 0
              · rw [if_pos (show nI idle ≤ (0 : Int32) from nI_le (b := 0) (by omega) (by decide)), hz, Nat.zero_mul, Nat.add_zero]
              · rw [if_neg (show ¬ nI idle ≤ (0 : Int32) from nI_ge (a := 0) (by omega) (by omega)), d_rumoursGrown hA hW hc FU_100, bd_some, hrecR _ (grA_ok hc n (Nat.le_refl n)), bd_some, nm_eqv, pk_mul, nI_add]
        simp only [jn0] at ho
        by_cases hle : nI i ≤ sy
        · rw [if_pos hle] at ho
          exact hj3 o ho
        · rw [if_neg hle] at ho
          rcases d_nothing ham hS hT (show i ≤ am by omega) with ⟨hall, e⟩ | e
          · rw [e, bd_some, if_neg one0, d_letters hA hW, bd_some, pk_sub (show i ≤ am by omega), show am - i = j + 1 by omega, d_pow _ (by omega), bd_some] at ho
            rw [ho, gR_free]
            intro i' h1 h2 l c' hl
            rw [P2 i' (by omega) (P3 i (by omega) hle i' h1 (by omega)) l c' hl]
            unfold asTb
            rw [decide_eq_true (hall i' h1 (by omega)), Bool.true_or, Bool.and_true]
          · rw [e, bd_some, if_pos rfl] at ho
            exact hj3 o ho
    unfold m_X1_rowsFrom_B
    rw [show ∀ (a : Option Int32) (f : Option Int32 → Option Int32), jn0 a f = f a from fun _ _ => rfl, hmain _ rfl]
    by_cases h0 : i = 0
    · rw [if_pos (show nI i ≤ (0 : Int32) by rw [h0]; decide), if_pos (Or.inl h0)]
    · rw [if_neg (show ¬ nI i ≤ (0 : Int32) from nI_ge (a := 0) (by omega) (by omega)), show nI i - (1 : Int32) = nI (i - 1) from pk_sub (b := 1) (by omega), d_asTold hc (show i - 1 < 5 by omega) (hT (i - 1) (by omega)), bd_some]
      by_cases h : asTb T (i - 1) c = true
      · rw [if_pos h, if_neg one0, if_pos (Or.inr h)]
      · rw [if_neg h, if_pos rfl, if_neg (fun q => q.elim h0 h)]; rfl
end ROWS
