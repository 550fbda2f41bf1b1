/-! fits and burnt -/
section BURNT
variable {SD SM : ST} {n : Nat} {kd : Nat → Nat} {tg : Nat → Int32} {rm : Nat} {lt c : Nat → Nat}
theorem r_mark {S : ST} {am : Nat} (ham : am ≤ 5) (hS : stI S 7 = nI am) {code : Nat} (hcd : code < 2 ^ 31) {M : Nat → Nat} (hM : ∀ k, k < am → M k < 64 ∧ stR S 10 k = nI (M k)) (x1 x2 : Int32) (K : Int32 → ST → Option (Int32 × ST)) : ∃ S', lq3 (m_X7_layFits_L53 FU x1 x2 K) FU (nI code) (0 : Int32) S = K x1 S' ∧ Ex [10] S S' ∧ ∀ k, k < am → stR S' 10 k = nI (M k ||| 2 ^ dg code k) := by
  refine lq3_run (fun o => ∃ S', o = K x1 S' ∧ Ex [10] S S' ∧ ∀ k, k < am → stR S' 10 k = nI (M k ||| 2 ^ dg code k)) am (fun i a b T => a = nI (code / 6 ^ i) ∧ b = nI i ∧ Ex [10] S T ∧ (∀ k, k < i → stR T 10 k = nI (M k ||| 2 ^ dg code k)) ∧ ∀ k, i ≤ k → k < am → stR T 10 k = nI (M k)) ?_ ?_ FU 0 _ _ _ (by omega) (by have := FU_v; omega) ⟨by simp, rfl, Ex.rf, fun k hk => by omega, fun k _ hk => (hM k hk).2⟩
  · rintro i a b T again hi ⟨rfl, rfl, hx, hlo, hhi⟩
    right
    have hik : code / 6 ^ i < 2 ^ 31 := Nat.lt_of_le_of_lt (Nat.div_le_self _ _) hcd
    have hl := dg_lt code i
    have hb : (1 : Int32) <<< (nI (dg code i) &&& (31 : Int32)) = nI (2 ^ dg code i) := (nextb _ hl).2.1
    unfold m_X7_layFits_L53
    rw [hx.1 7, hS, if_neg (nI_ge hi (by omega)), inB_nI (show i < 5 by omega) (by decide), gd_true, gd_true, nm_eqv, nm_eqv, nm_eqv, mod6 hik, div6 hik, show code / 6 ^ i % 6 = dg code i from rfl, Nat.div_div_eq_div_mul, ← Nat.pow_succ, hb, rd_nI (show i < 2 ^ 31 by omega), hhi i (Nat.le_refl i) hi, nx_or]
    have hwa := wr_at (S := T) (j := 10) (i := i) (v := nI (M i ||| 2 ^ dg code i)) (by omega)
    refine ⟨_, _, _, ⟨rfl, nI_add i 1, hx.tr (wr_ex (by omega) (by decide)), fun k hk => ?_, fun k hk hk2 => ?_⟩, rfl⟩
    · rw [hwa.1 k]
      by_cases e : k = i
      · rw [if_pos e, e]
      · rw [if_neg e]; exact hlo k (by omega)
    · rw [hwa.1 k, if_neg (by omega)]
      exact hhi k (by omega) hk2
  · rintro a b T again ⟨rfl, rfl, hx, hlo, hhi⟩
    unfold m_X7_layFits_L53
    rw [hx.1 7, hS, if_pos (nI_le (Nat.le_refl am) (by omega))]
    exact ⟨T, rfl, hx, hlo⟩
theorem r_zero (K : ST → Option (Int32 × ST)) : ∃ S', lq2 (m_X7_layFits_L2 FU K) FU (0 : Int32) SM = K S' ∧ Ex [10] SM S' ∧ ∀ k, k < 5 → stR S' 10 k = nI 0 := by
  refine lq2_run (fun o => ∃ S', o = K S' ∧ Ex [10] SM S' ∧ ∀ k, k < 5 → stR S' 10 k = nI 0) 5 (fun i a T => a = nI i ∧ Ex [10] SM T ∧ ∀ k, k < i → stR T 10 k = nI 0) ?_ ?_ FU 0 _ _ (by omega) (by have := FU_v; omega) ⟨rfl, Ex.rf, fun k hk => by omega⟩
  · rintro i a T again hi ⟨rfl, hx, hlo⟩
    right
    unfold m_X7_layFits_L2
    rw [if_neg (show ¬ (5 : Int32) ≤ nI i from nI_ge (b := 5) hi (by decide)), inB_nI hi (by decide), gd_true, nm_eqv, nm_eqv]
    have hwa := wr_at (S := T) (j := 10) (i := i) (v := (0 : Int32)) (by omega)
    refine ⟨_, _, ⟨nI_add i 1, hx.tr (wr_ex (by omega) (by decide)), fun k hk => ?_⟩, rfl⟩
    rw [hwa.1 k]
    by_cases e : k = i
    · rw [if_pos e]; rfl
    · rw [if_neg e]; exact hlo k (by omega)
  · rintro a T again ⟨rfl, hx, hlo⟩
    unfold m_X7_layFits_L2
    rw [if_pos (show (5 : Int32) ≤ nI 5 by decide)]
    exact ⟨T, rfl, hx, hlo⟩
theorem r_layFits (hA : AM SM n kd tg rm lt) (hW : WF0 n kd tg rm lt) (hc : OKc n c) (hN : Nw SM 3 4 n c) {T : Nat → Int32} {am : Nat} (ham : am ≤ 5) (hS : stI SM 7 = nI am) (hT : ∀ i, i < am → stR SM 9 i = T i) : ∃ S', m_X7_layFits FU SM = some (nI (gR n kd tg rm (okA lt T) 0 am c), S') ∧ Ex [5, 6, 7, 10] SM S' ∧ ∀ k, k < am → stR S' 10 k = nI (mkM (fun code => fpB n kd tg rm (okA lt T) 0 c code am) k (6 ^ am)) := by
  have h6 := six_le ham
  unfold m_X7_layFits
  simp only [jn1]
  obtain ⟨S0, e0, x0, z0⟩ := r_zero (SM := SM) (fun S_1 => lq3 (m_X7_layFits_L24 FU) FU (0 : Int32) (0 : Int32) S_1)
  rw [e0, ← fpB_cnt am 0 c]
  refine lq3_run (fun o => ∃ S', o = some (nI (sumN (fun code => if fpB n kd tg rm (okA lt T) 0 c code am = true then 1 else 0) (6 ^ am)), S') ∧ Ex [5, 6, 7, 10] SM S' ∧ ∀ k, k < am → stR S' 10 k = nI (mkM (fun code => fpB n kd tg rm (okA lt T) 0 c code am) k (6 ^ am))) (6 ^ am) (fun i a b S => a = nI (sumN (fun code => if fpB n kd tg rm (okA lt T) 0 c code am = true then 1 else 0) i) ∧ b = nI i ∧ Ex [5, 6, 7, 10] SM S ∧ ∀ k, k < am → stR S 10 k = nI (mkM (fun code => fpB n kd tg rm (okA lt T) 0 c code am) k i)) ?_ ?_ FU 0 _ _ _ (Nat.zero_le _) (by have := FU_v; omega) ⟨rfl, rfl, x0.mono (by decide), fun k hk => z0 k (by omega)⟩
  · rintro i a b S again hi ⟨rfl, rfl, hx, hmk⟩
    right
    have hAS := hA.ex hx (by decide) (by decide)
    have hNS : Nw S 3 4 n c := hN.ex hx (by decide) (by decide)
    have hSS : stI S 7 = nI am := (hx.1 7).trans hS
    have hTS : ∀ k, k < am → stR S 9 k = T k := fun k hk => by rw [hx.2.2 9 (by decide)]; exact hT k hk
    obtain ⟨S1, e1, x1⟩ := r_isTold hAS hW hc hNS ham hSS hTS hi
    have hx1 : Ex [5, 6, 7, 10] SM S1 := hx.tr (x1.mono (by decide))
    have hm1 : ∀ k, k < am → stR S1 10 k = nI (mkM (fun code => fpB n kd tg rm (okA lt T) 0 c code am) k i) := fun k hk => by rw [x1.2.2 10 (by decide)]; exact hmk k hk
    unfold m_X7_layFits_L24
    rw [hSS, show (6 : Int32) = nI 6 from rfl, r_power 6 (by omega), bd_some, if_neg (nI_ge hi (by omega)), e1, bd2_some]
    simp only [jn2]
    by_cases hf : fpB n kd tg rm (okA lt T) 0 c i am = true
    · rw [if_pos hf, if_neg one0, nm_eqv]
      obtain ⟨S2, e2, x2, m2⟩ := r_mark (S := S1) ham ((x1.1 7).trans hSS) (code := i) (by omega) (M := fun k => mkM (fun code => fpB n kd tg rm (okA lt T) 0 c code am) k i) (fun k hk => ⟨mkM_lt i, hm1 k hk⟩) (nI (sumN (fun code => if fpB n kd tg rm (okA lt T) 0 c code am = true then 1 else 0) i) + 1) (nI i) (fun x1_13 S_14 => nm (nI i + (1 : Int32)) (fun x2_16 => again x1_13 x2_16 S_14))
      rw [e2, nm_eqv]
      refine ⟨_, _, _, ⟨?_, nI_add i 1, hx1.tr (x2.mono (by decide)), fun k hk => ?_⟩, rfl⟩
      · rw [sumN, if_pos hf]; exact nI_add _ 1
      · rw [m2 k hk, mkM, if_pos hf]
    · rw [if_neg hf, if_pos rfl, nm_eqv]
      refine ⟨_, _, _, ⟨?_, nI_add i 1, hx1, fun k hk => ?_⟩, rfl⟩
      · rw [sumN, if_neg hf, Nat.add_zero]
      · rw [hm1 k hk, mkM, if_neg hf]
  · rintro a b S again ⟨rfl, rfl, hx, hmk⟩
    unfold m_X7_layFits_L24
    rw [hx.1 7, hS, show (6 : Int32) = nI 6 from rfl, r_power 6 (by omega), bd_some, if_pos (nI_le (Nat.le_refl _) (by omega))]
    exact ⟨S, rfl, hx, hmk⟩
theorem d_fits (hA : AD SD n kd tg rm lt) (hW : WF0 n kd tg rm lt) (hc : OKc n c) (hL : stL SD 0 = lN (enc c)) {T : Nat → Int32} {am : Nat} (ham : am ≤ 5) (hS : stI SD 8 = nI am) (hT : ∀ i, i < am → stR SD 4 i = T i) : m_X1_rowsThatFit FU SD = some (nI (gR n kd tg rm (okA lt T) 0 am c)) := by
  unfold m_X1_rowsThatFit
  have := d_rows hA hW ham hS hT (ok := okA lt T) (sy := -1) (sl := -1) (fun i hi e => absurd e (nI_m1 (by omega))) (fun i _ _ l c' _ => rfl) (fun i _ _ i' _ h => nI_m1 (by omega)) 8 am 0 c (by omega) hc (by omega) (by omega)
  rw [if_pos (Or.inl rfl)] at this
  rw [hL, show (0 : Int32) = nI 0 from rfl, this, bd_some]
theorem d_fitsY (hA : AD SD n kd tg rm lt) (hW : WF0 n kd tg rm lt) (hc : OKc n c) {T : Nat → Int32} {am : Nat} (ham : am ≤ 5) (hS : stI SD 8 = nI am) (hT : ∀ i, i < am → stR SD 4 i = T i) {y l0 : Nat} (hy : y < am) (hl : l0 < 6) : m_X1_rowsFrom FU 8 (lN (enc c)) (0 : Int32) (nI y) (nI l0) SD = some (nI (gR n kd tg rm (okY lt T y l0) 0 am c)) := by
  have := d_rows hA hW ham hS hT (ok := okY lt T y l0) (sy := nI y) (sl := nI l0) (fun i hi e => ⟨l0, hl, rfl, fun l c' _ => by
    have : i = y := nI_inj (by omega) (by omega) e
    unfold okY
    rw [if_pos this]⟩) (fun i _ hne l c' _ => by
    have : ¬ i = y := fun e => hne (by rw [e])
    unfold okY
    rw [if_neg this]) (fun i hi hle i' h1 h2 e => by
    have e2 : i' = y := nI_inj (by omega) (by omega) e
    exact hle (nI_le (by omega) (by omega))) 8 am 0 c (by omega) hc (by omega) (by omega)
  rw [if_pos (Or.inl rfl)] at this
  rw [show (0 : Int32) = nI 0 from rfl, this]
/-- the only letter: as the class looks for it, as the reference does -/
def cO (M : Nat) : Nat → Int32 → Nat → Int32
  | 0, fd, _ => fd
  | j + 1, fd, i => if bitL M i = 0 then cO M j fd (i + 1) else if fd = -1 then cO M j (nI i) (i + 1) else -1
def rO (M : Nat) : Nat → Nat → Int32
  | 0, _ => -1
  | j + 1, i => if nI M = (1 : Int32) <<< (nI i &&& (31 : Int32)) then nI i else rO M j (i + 1)
theorem cO_rO : ∀ M, M < 64 → cO M 6 (-1) 0 = rO M 6 0 := by decide +kernel
theorem d_only (hA : AD SD n kd tg rm lt) (hW : WF0 n kd tg rm lt) (hc : OKc n c) (hL : stL SD 0 = lN (enc c)) {T : Nat → Int32} {am : Nat} (ham : am ≤ 5) (hS : stI SD 8 = nI am) (hT : ∀ i, i < am → stR SD 4 i = T i) {y : Nat} (hy : y < am) : m_X1_onlyLetterIn FU (nI y) SD = some (cO (mkM (fun code => fpB n kd tg rm (okA lt T) 0 c code am) y (6 ^ am)) 6 (-1) 0) := by
  have h6 := six_le ham
  obtain ⟨M, hM⟩ : ∃ M, M = mkM (fun code => fpB n kd tg rm (okA lt T) 0 c code am) y (6 ^ am) := ⟨_, rfl⟩
  have hbit : ∀ l, l < 6 → (bitL M l ≠ 0 ↔ ∃ code, code < 6 ^ am ∧ (fpB n kd tg rm (okA lt T) 0 c code am = true ∧ dg code y = l)) := fun l hl => by rw [hM]; exact mkM_bit hl _
  rw [← hM]
  have hrows : ∀ l, l < 6 → lt l ≠ 0 → (gR n kd tg rm (okY lt T y l) 0 am c ≠ 0 ↔ bitL M l ≠ 0) := by
    intro l hl hz
    rw [hbit l hl, ← fpB_cnt, sum_pos]
    constructor
    · rintro ⟨q, a, b⟩
      have := (okY_iff hz am).mp b
      exact ⟨q, a, this.1, this.2 hy⟩
    · rintro ⟨q, a, b, d⟩
      exact ⟨q, a, (okY_iff hz am).mpr ⟨b, fun _ => d⟩⟩
  have hdead : ∀ l, l < 6 → lt l = 0 → bitL M l = 0 := by
    intro l hl hz
    apply Classical.byContradiction
    intro hb
    obtain ⟨q, a, b, d⟩ := (hbit l hl).mp hb
    have h1 : fpB n kd tg rm (okA lt T) 0 c q (y + 1) = true := by
      cases e : fpB n kd tg rm (okA lt T) 0 c q (y + 1) with
      | true => rfl
      | false => rw [fpB_mono e am (by omega)] at b; exact b
    have h2 : (fpB n kd tg rm (okA lt T) 0 c q y && okA lt T (0 + y) (dg q y) (rn n kd tg rm c q (y + 1))) = true := h1
    rw [Bool.and_eq_true] at h2
    have h3 := h2.2
    unfold okA at h3
    rw [d, decide_eq_true hz] at h3
    exact absurd h3 (by simp)
  clear hM
  unfold m_X1_onlyLetterIn
  have key : ∀ j N i fd, i + j = 6 → j < N → lq2 (m_X1_onlyLetterIn_L4 FU (nI y) SD) N fd (nI i) = some (cO M j fd i) := by
    intro j
    induction j with
    | zero =>
      intro N i fd h1 h2
      obtain ⟨N', rfl⟩ : ∃ N', N = N' + 1 := ⟨N - 1, by omega⟩
      rw [lq2_s]
      unfold m_X1_onlyLetterIn_L4
      rw [if_pos (show (6 : Int32) ≤ nI i from nI_le (a := 6) (by omega) (by omega))]
      rfl
    | succ j ih =>
      intro N i fd h1 h2
      obtain ⟨N', rfl⟩ : ∃ N', N = N' + 1 := ⟨N - 1, by omega⟩
      have hi : i < 6 := by omega
      rw [lq2_s]
      have ih1 := fun fd => ih N' (i + 1) fd (by omega) (by omega)
      obtain ⟨ag, eag⟩ : ∃ g, g = lq2 (m_X1_onlyLetterIn_L4 FU (nI y) SD) N' := ⟨_, rfl⟩
      rw [← eag] at ih1 ⊢
      unfold m_X1_onlyLetterIn_L4
      rw [if_neg (show ¬ (6 : Int32) ≤ nI i from nI_ge (b := 6) hi (by decide)), d_mayBurn hA hW hi, bd_some]
      simp only [jn1]
      rw [nm_eqv, nm_eqv, show nI i + (1 : Int32) = nI (i + 1) from nI_add i 1, ih1, ih1, hL, d_fitsY hA hW hc ham hS hT hy hi, bd_some, cO]
      by_cases hz : lt i = 0
      · rw [if_pos hz, if_pos n0_0, if_pos (hdead i hi hz)]
      · rw [if_neg hz, if_neg n1_0]
        have hg := gR_le (n := n) (kd := kd) (tg := tg) (rm := rm) (ok := okY lt T y i) am 0 c
        by_cases hb : bitL M i = 0
        · have h0 : gR n kd tg rm (okY lt T y i) 0 am c = 0 := Classical.byContradiction (fun q => (hrows i hi hz).mp q hb)
          rw [h0, if_pos (show nI 0 ≤ (0 : Int32) by decide), if_pos hb]
        · have h0 := (hrows i hi hz).mpr hb
          rw [if_neg (show ¬ nI (gR n kd tg rm (okY lt T y i) 0 am c) ≤ (0 : Int32) from nI_ge (a := 0) (by omega) (by omega)), if_neg hb]
          by_cases hf : fd = -1
          · rw [if_pos hf, if_pos hf]
          · rw [if_neg hf, if_neg hf]
  exact key 6 FU 0 (-1) (by omega) (by have := FU_v; omega)
theorem r_only {S : ST} {y M : Nat} (hy : y < 5) (hM : stR S 10 y = nI M) : ∀ j N i, i + j = 6 → j < N → lq1 (m_X7_burnt_L36 FU (nI y) S) N (nI i) = some (rO M j i, S) := by
  intro j
  induction j with
  | zero =>
    intro N i h1 h2
    obtain ⟨N', rfl⟩ : ∃ N', N = N' + 1 := ⟨N - 1, by omega⟩
    rw [lq1_s]
    unfold m_X7_burnt_L36
    rw [if_pos (show (6 : Int32) ≤ nI i from nI_le (a := 6) (by omega) (by omega))]
    rfl
  | succ j ih =>
    intro N i h1 h2
    obtain ⟨N', rfl⟩ : ∃ N', N = N' + 1 := ⟨N - 1, by omega⟩
    have hi : i < 6 := by omega
    rw [lq1_s]
    have ih1 := ih N' (i + 1) (by omega) (by omega)
    obtain ⟨ag, eag⟩ : ∃ g, g = lq1 (m_X7_burnt_L36 FU (nI y) S) N' := ⟨_, rfl⟩
    rw [← eag] at ih1 ⊢
    unfold m_X7_burnt_L36
    rw [if_neg (show ¬ (6 : Int32) ≤ nI i from nI_ge (b := 6) hi (by decide)), inB_nI hy (by decide), gd_true, rd_nI (show y < 2 ^ 31 by omega), hM, nm_eqv, show nI i + (1 : Int32) = nI (i + 1) from nI_add i 1, ih1, rO]
    by_cases h : nI M = (1 : Int32) <<< (nI i &&& (31 : Int32))
    · rw [if_pos h, if_pos h]
    · rw [if_neg h, if_neg h]
end BURNT
theorem fits_both {SD SM : ST} {n : Nat} {kd : Nat → Nat} {tg : Nat → Int32} {rm : Nat} {lt c : Nat → Nat} (hA : RA n kd tg rm lt c SD SM) {am : Nat} (hS : RS am SD SM) : ∃ r SM', m_X1_rowsThatFit FU SD = some r ∧ m_X7_layFits FU SM = some (r, SM') ∧ Ex [5, 6, 7, 10] SM SM' := by
  obtain ⟨hW, hD, hM, hL, hN⟩ := hA
  obtain ⟨S1, e1, x1, -⟩ := r_layFits (T := stR SD 4) hM hW.1 hW.2.1 hN hS.1 hS.2.2.1 (fun i hi => (hS.2.2.2 i hi).symm)
  exact ⟨_, S1, d_fits hD hW.1 hW.2.1 hL hS.1 hS.2.1 (fun _ _ => rfl), e1, x1⟩
theorem op_fits {t : Nat} {SD SM : ST} (hR : Rel t SD SM) : ∃ (r : Int32) (SM1 : ST), m_X6_fits FU SD = some r ∧ m_X7_fits FU SM = some (r, SM1) ∧ Rel (t + 1) SD SM1 := by
  have hup := hR.up
  obtain ⟨pn, n, kd, tg, rm, lt, c, am, lr, su, mv, hP, hA, hC, hS, hI⟩ := hR
  unfold m_X6_fits m_X7_fits
  rcases sl_cases FU hA.1.1.2.1 hA.2.1.2.1 hA.2.2.1.2.1 with ⟨h0, h7, h8⟩ | ⟨h0, h7, h8⟩
  · rw [h7, h8]; exact ⟨_, _, rfl, rfl, hup⟩
  rw [h7, h8, bd_some, bd_some, if_neg one0, if_pos rfl]
  obtain ⟨r, S1, e1, e2, x1⟩ := fits_both hA hS
  rw [e1, e2, bd_some, bd2_some]
  exact ⟨r, S1, rfl, rfl, hup.sc (x1.sc (by decide))⟩
theorem am_cases {SD SM : ST} (fu : Nat) {n : Nat} (hn : n ≤ 5) (hD : stI SD 8 = nI n) (hM : stI SM 7 = nI n) (x : Int32) : (m_X6_within fu x 0 (stI SD 8 - 1) = some 0 ∧ m_X7_in fu x.toInt64 0 (stI SM 7 - 1).toInt64 = some 0) ∨ ∃ f, f < n ∧ x = nI f ∧ m_X6_within fu x 0 (stI SD 8 - 1) = some 1 ∧ m_X7_in fu x.toInt64 0 (stI SM 7 - 1).toInt64 = some 1 := by
  have h7 : m_X7_in fu x.toInt64 0 (stI SM 7 - 1).toInt64 = m_X6_within fu x 0 (nI n - 1) := by
    rw [show (0 : Int64) = (0 : Int32).toInt64 from rfl, X7_in, hM]
  rw [h7, hD]
  have hl : (nI n - 1).toInt = (n : Int) - 1 := by
    rw [show (1 : Int32) = nI 1 from rfl, pk_sub_toInt (by omega) (by omega)]
    rfl
  rcases wi_cases fu x 0 (nI n - 1) with ⟨h, h2⟩ | ⟨h, h1, h2⟩
  · rw [h]
    exact Or.inl ⟨rfl, rfl⟩
  · rw [h]
    have h1' : nI 0 ≤ x := h1
    rw [Int32.le_iff_toInt_le, nI_toInt (by decide)] at h1'
    rw [Int32.le_iff_toInt_le, hl] at h2
    refine Or.inr ⟨x.toInt.toNat, by omega, ?_, rfl, rfl⟩
    apply Int32.toInt_inj.mp
    rw [nI_toInt (by omega)]
    omega
theorem op_burnt {t : Nat} {SD SM : ST} (hR : Rel t SD SM) (x1 : Int32) : ∃ (r : Int32) (SM1 : ST), m_X6_burnt FU x1 SD = some r ∧ m_X7_burnt FU x1 SM = some (r, SM1) ∧ Rel (t + 1) SD SM1 := by
  have hup := hR.up
  obtain ⟨pn, n, kd, tg, rm, lt, c, am, lr, su, mv, hP, hA, hC, hS, hI⟩ := hR
  unfold m_X6_burnt m_X7_burnt
  rcases am_cases FU hS.1 hS.2.1 hS.2.2.1 x1 with ⟨h1, h2⟩ | ⟨y, hy, rfl, h1, h2⟩
  · rw [h1, h2]; exact ⟨_, _, rfl, rfl, hup⟩
  rw [h1, h2, bd_some, bd_some, if_neg one0, if_neg one0]
  rcases sl_cases FU hA.1.1.2.1 hA.2.1.2.1 hA.2.2.1.2.1 with ⟨h0, h7, h8⟩ | ⟨h0, h7, h8⟩
  · rw [h7, h8]; exact ⟨_, _, rfl, rfl, hup⟩
  rw [h7, h8, bd_some, bd_some, if_neg one0, if_pos rfl]
  obtain ⟨hW, hD, hM, hL, hN⟩ := hA
  obtain ⟨S1, e1, x1, hmk⟩ := r_layFits (T := stR SD 4) hM hW.1 hW.2.1 hN hS.1 hS.2.2.1 (fun i hi => (hS.2.2.2 i hi).symm)
  have ham := hS.1
  rw [e1, bd2_some, d_only hD hW.1 hW.2.1 hL hS.1 hS.2.1 (fun _ _ => rfl) hy, bd_some, cO_rO _ (mkM_lt _)]
  exact ⟨_, S1, rfl, r_only (show y < 5 by omega) (hmk y hy) 6 FU 0 (by omega) (by have := FU_v; omega), hup.sc (x1.sc (by decide))⟩
