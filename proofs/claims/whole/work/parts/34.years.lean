/-! a year told; nowhere; ashes; images; counts -/
def bbm (kd l x k : Nat) (pt : Bool) : Bool := decide (bitL (burnB kd pt x l) k ≤ bitL x k)
theorem bb_all : (List.range 5).all (fun kd => (List.range 6).all (fun l => (List.range 192).all (fun x => (List.range 6).all (fun k => bbm kd l x k true && bbm kd l x k false)))) = true := by decide +kernel
theorem bb_le {kd l x k : Nat} (h1 : kd ≤ 4) (h2 : l < 6) (h3 : x < 192) (h4 : k < 6) (pt : Bool) : bitL (burnB kd pt x l) k ≤ bitL x k := by
  have h := allR (allR (allR (allR bb_all (show kd < 5 by omega)) h2) h3) h4
  simp only [bbm, Bool.and_eq_true, decide_eq_true_eq] at h
  cases pt
  · exact h.2
  · exact h.1
theorem full_burn {n : Nat} {kd : Nat → Nat} {tg : Nat → Int32} {rm : Nat} {lt c : Nat → Nat} (hW : WF0 n kd tg rm lt) (hc : OKc n c) {l : Nat} (hl : l < 6) {k : Nat} (hk : k < 6) : full (burnC n kd tg c l) k ≤ full c k := by
  have h : ∀ f, bitL (burnC n kd tg c l f) k ≤ bitL (c f) k := fun f => by
    unfold burnC
    by_cases hf : f < n
    · rw [if_pos hf]; exact bb_le (hW.2.2.1 f hf) hl (hc.1 f) hk _
    · rw [if_neg hf]; exact Nat.le_refl _
  have h0 := h 0; have h1 := h 1; have h2 := h 2; have h3 := h 3; have h4 := h 4
  unfold full
  omega
theorem full_growAt {n rm : Nat} {c : Nat → Nat} (hn : n ≤ 5) (hc : OKc n c) (hF : ∀ l, l < 6 → full c l ≤ rm) {f : Nat} (hf : f < n) : ∀ d, d ≤ 6 → ∀ k, k < 6 → full (growAt rm c f d) k ≤ rm
  | 0, _ => hF
  | d + 1, h => by
    unfold growAt
    by_cases hb : bitL (c f) (5 - d) = 0 ∧ full c (5 - d) < rm
    · rw [if_pos hb]; exact full_add hc hF (by omega) (by omega) hb.1 hb.2
    · rw [if_neg hb]; exact full_growAt hn hc hF hf d (by omega)
theorem full_grA {n rm : Nat} {kd c : Nat → Nat} (hn : n ≤ 5) (hc : OKc n c) (hF : ∀ l, l < 6 → full c l ≤ rm) : ∀ k, k ≤ n → ∀ l, l < 6 → full (grA kd rm c k) l ≤ rm
  | 0, _ => hF
  | k + 1, h => by
    unfold grA
    by_cases hb : kd k = 1 ∧ ¬ grA kd rm c k k % 64 = 0
    · rw [if_pos hb]; exact full_growAt hn (grA_ok hc k (by omega)) (full_grA hn hc hF k (by omega)) (by omega) 6 (by omega)
    · rw [if_neg hb]; exact full_grA hn hc hF k (by omega)
theorem WF.pass {n : Nat} {kd : Nat → Nat} {tg : Nat → Int32} {rm : Nat} {lt c : Nat → Nat} (hW : WF n kd tg rm lt c) {l : Nat} (hl : l < 6) : WF n kd tg rm lt (passC n kd tg rm c l) :=
  ⟨hW.1, passC_ok hW.1 hW.2.1 hl, full_grA hW.1.1 (burnC_ok hW.1 hW.2.1 hl) (fun k hk => Nat.le_trans (full_burn hW.1 hW.2.1 hl hk) (hW.2.2.1 k hk)) n (Nat.le_refl n), hW.2.2.2⟩
theorem op_burn {t : Nat} {SD SM : ST} (hR : Rel t SD SM) (x1 : Int32) : ∃ (r : Int32) (SD1 : ST) (SM1 : ST), m_X6_burn FU x1 SD = some (r, SD1) ∧ m_X7_burn FU x1 SM = some (r, SM1) ∧ Rel (t + 1) SD1 SM1 := by
  have hup := hR.up
  obtain ⟨pn, n, kd, tg, rm, lt, c, am, lr, su, mv, hP, ⟨hW, hD, hM, hL, hN⟩, hC, hS, hI⟩ := hR
  have hn := hW.1.1
  unfold m_X6_burn m_X7_burn
  rcases isL_cases FU x1 with ⟨h1, h2⟩ | ⟨l, hl, rfl, h1, h2⟩
  · rw [h1, h2]; exact ⟨_, _, _, rfl, rfl, hup⟩
  rw [h1, h2, bd_some, bd_some, if_neg one0, if_neg one0]
  rcases sl_cases FU hW.1.2.1 hD.2.1 hM.2.1 with ⟨h0, h1, h2⟩ | ⟨h0, h1, h2⟩
  · rw [h1, h2, bd_some, bd_some, if_pos rfl, if_neg one0]; exact ⟨_, _, _, rfl, rfl, hup⟩
  rw [h1, h2, bd_some, bd_some, if_neg one0, if_pos rfl]
  have hB := burnC_ok hW.1 hW.2.1 hl
  have hcn := cnt_all hW.1 hW.2.1 hl
  have hal : allL c ≤ 30 := by unfold allL; have := pop_le (c 0 % 64); have := pop_le (c 1 % 64); have := pop_le (c 2 % 64); have := pop_le (c 3 % 64); have := pop_le (c 4 % 64); omega
  unfold m_X0_passYear
  rw [hL, d_burntDown hD hW.1 hW.2.1 hl FU_100, bd_some, s_allLeaves FU hW.2.1.lt, bd_some, s_allLeaves FU hB.lt, bd_some]
  simp only [nm]
  rw [d_rumoursGrown hD hW.1 hB FU_100, bd_some, bd2_some, pk_sub (by omega), show allL c - allL (burnC n kd tg c l) = cntB n kd tg c l by omega]
  -- the reference
  obtain ⟨S1, e1, x1, a5, a6⟩ := r_asItIs (SM := SM) FU_100
  rw [e1, bd_some]
  have hM1 := hM.ex x1 (by decide) (by decide)
  have hN1 : Nw S1 5 6 n c := ⟨fun f hf => by rw [a5 f (by omega), hN.1 f hf], fun f hf => by rw [a6 f (by omega), hN.2 f hf]⟩
  obtain ⟨S2, e2, x2, n2⟩ := r_pass hM1 hW.1 hW.2.1 hN1 hl FU_100
  rw [e2, bd2_some]
  simp only [jn1]
  have x12 : Ex [5, 6, 7] SM S2 := (x1.mono (by decide)).tr x2
  have hcb : ∃ S3, lq2 (m_X7_burn_L32 FU (nI (cntB n kd tg c l)) (fun S_12 => some (nI (cntB n kd tg c l), puI S_12 2 (stI S_12 2 + 1)))) FU (0 : Int32) S2 = some (nI (cntB n kd tg c l), puI S3 2 (stI S3 2 + 1)) ∧ Ex [3, 4] S2 S3 ∧ (∀ f, f < 5 → stR S3 3 f = stR S2 5 f) ∧ ∀ f, f < 5 → stR S3 4 f = stR S2 6 f := by
    refine lq2_run (fun o => ∃ S3, o = some (nI (cntB n kd tg c l), puI S3 2 (stI S3 2 + 1)) ∧ Ex [3, 4] S2 S3 ∧ (∀ f, f < 5 → stR S3 3 f = stR S2 5 f) ∧ ∀ f, f < 5 → stR S3 4 f = stR S2 6 f) 5 (fun i x S => x = nI i ∧ Ex [3, 4] S2 S ∧ (∀ f, f < i → stR S 3 f = stR S2 5 f) ∧ ∀ f, f < i → stR S 4 f = stR S2 6 f) ?_ ?_ FU 0 _ _ (by omega) (by have := FU_v; omega) ⟨rfl, Ex.rf, fun f h => by omega, fun f h => by omega⟩
    · rintro i x S again hi ⟨rfl, hx, h5, h6⟩
      right
      have hlt : i < 2 ^ 31 := by omega
      unfold m_X7_burn_L32
      rw [L5, if_neg (nI_ge hi (by decide)), inB_nI hi (by decide)]
      simp only [gd_true, nm]
      refine ⟨_, _, ⟨nI_add i 1, hx.tr ((wr_ex hlt (by decide)).tr (wr_ex hlt (by decide))), ?_, ?_⟩, rfl⟩
      · intro f hf
        rw [(wr_at hlt).2.1 3 (by decide), (wr_at hlt).1 f, rd_nI hlt]
        by_cases e : f = i
        · rw [if_pos e, e, hx.2.2 5 (by decide)]
        · rw [if_neg e, h5 f (by omega)]
      · intro f hf
        rw [(wr_at hlt).1 f, rd_nI hlt, (wr_at hlt).2.1 4 (by decide), (wr_at hlt).2.1 6 (by decide)]
        by_cases e : f = i
        · rw [if_pos e, e, hx.2.2 6 (by decide)]
        · rw [if_neg e, h6 f (by omega)]
    · rintro x S again ⟨rfl, hx, h5, h6⟩
      unfold m_X7_burn_L32
      rw [L5, if_pos (nI_le (Nat.le_refl 5) (by decide))]
      exact ⟨S, rfl, hx, h5, h6⟩
  obtain ⟨S3, e3, x3, b3, b4⟩ := hcb
  rw [e3]
  refine ⟨_, _, _, rfl, rfl, ?_⟩
  have hI3 : ∀ k, stI S3 k = stI SM k := fun k => (x3.1 k).trans (x12.1 k)
  have hR3 : ∀ k, k ∉ [3, 4, 5, 6, 7] → stR S3 k = stR SM k := fun k hk => by
    simp at hk
    rw [x3.2.2 k (by simp; omega), x12.2.2 k (by simp; omega)]
  have sI : ∀ k, k ≠ 2 → stI (puI S3 2 (stI S3 2 + 1)) k = stI SM k := fun k hk => by rw [stI_puI, if_neg hk, hI3]
  have sR : ∀ k, k ∉ [3, 4, 5, 6, 7] → stR (puI S3 2 (stI S3 2 + 1)) k = stR SM k := fun k hk => by rw [stR_puI, hR3 k hk]
  refine ⟨pn, n, kd, tg, rm, lt, passC n kd tg rm c l, am, lr, su, mv, hP.fr rfl rfl (sI 0 (by decide)) (sR 0 (by decide)), ⟨hW.pass hl, hD, ?_, rfl, fun f hf => ?_, fun f hf => ?_⟩, ?_, hS.fr rfl rfl (sI 7 (by decide)) (sR 9 (by decide)), hI.fr rfl rfl rfl rfl rfl rfl rfl rfl (sI 9 (by decide)) (sI 10 (by decide)) (sI 11 (by decide)) (sI 12 (by decide)) (sR 11 (by decide)) (sR 12 (by decide)) (sR 13 (by decide)) (sR 14 (by decide))⟩
  · unfold AM
    rw [sI 4 (by decide), sI 1 (by decide), sR 1 (by decide), sR 2 (by decide)]
    exact hM
  · rw [stR_puI, b3 f (by omega), n2.1 f hf]
  · rw [stR_puI, b4 f (by omega), n2.2 f hf]
  · obtain ⟨c1, c2, c3, c4, c5⟩ := hC
    refine ⟨?_, c2, ?_, by omega, ?_⟩
    · rw [stI_puI, if_pos rfl, stI_puI, if_pos rfl, stI_puL, hI3 2, c1]
    · rw [sI 3 (by decide)]; exact c3
    · rw [sI 5 (by decide), sI 6 (by decide)]; exact c5
/-- what points nowhere -/
def nwb (tg : Nat → Int32) (c : Nat → Nat) (f : Nat) : Bool := decide (¬ c f % 64 = 0) && (decide (¬ tg f = -1) && decide (c (tg f).toNatClampNeg % 64 = 0))
def nwM (tg : Nat → Int32) (c : Nat → Nat) : Nat → Nat
  | 0 => 0
  | k + 1 => if nwb tg c k = true then nwM tg c k + 2 ^ k else nwM tg c k
theorem nwM_lt (tg : Nat → Int32) (c : Nat → Nat) : ∀ k, nwM tg c k < 2 ^ k
  | 0 => by simp [nwM]
  | k + 1 => by
    have := nwM_lt tg c k
    unfold nwM
    split <;> omega
theorem d_nowhere {SD : ST} {n : Nat} {kd : Nat → Nat} {tg : Nat → Int32} {rm : Nat} {lt c : Nat → Nat} (hA : AD SD n kd tg rm lt) (hW : WF0 n kd tg rm lt) (hc : OKc n c) (hL : stL SD 0 = lN (enc c)) : m_X0_pointingNowhere FU SD = some (nI (nwM tg c n)) := by
  have hn := hW.1
  unfold m_X0_pointingNowhere
  refine lq2_run (fun o => o = _) n (fun i x y => x = nI (nwM tg c i) ∧ y = nI i) ?_ ?_ FU 0 _ _ (Nat.zero_le n) (by have := FU_v; omega) ⟨rfl, rfl⟩
  · rintro i x y again hi ⟨rfl, rfl⟩
    right
    have hob := or_bit (nwM_lt tg c i) (show i < 31 by omega)
    have hob' : nI (nwM tg c i) ||| ((1 : Int32) <<< (nI i &&& (31 : Int32))) = nI (nwM tg c i + 2 ^ i) := hob
    unfold m_X0_pointingNowhere_L4
    rw [hA.1, if_neg (nI_ge hi (by omega)), d_targetOf hA hW hi, bd_some]
    simp only [jn1, nm]
    rw [hL, s_lives FU hc.lt (by omega), bd_some, hob']
    rcases hW.2.2.2.1 i hi with ht | ⟨g, hg, ht⟩
    · rw [if_pos ht]
      exact ⟨_, _, ⟨by rw [nwM, if_neg (by simp [nwb, ht])], nI_add i 1⟩, rfl⟩
    · rw [ht, if_neg (nI_m1 (by omega)), s_lives FU hc.lt (by omega), bd_some]
      have hcl : (tg i).toNatClampNeg = g := by rw [ht, nI_clamp (by omega)]
      have hm1 : ¬ tg i = -1 := by rw [ht]; exact nI_m1 (by omega)
      by_cases h0 : c i % 64 = 0
      · rw [if_pos h0, if_pos n0_0]
        exact ⟨_, _, ⟨by rw [nwM, if_neg (by simp [nwb, h0])], nI_add i 1⟩, rfl⟩
      · rw [if_neg h0, if_neg n1_0]
        by_cases h2 : c g % 64 = 0
        · rw [if_pos h2, if_pos n0_0]
          exact ⟨_, _, ⟨by rw [nwM, if_pos (by simp [nwb, h0, hm1, hcl, h2])], nI_add i 1⟩, rfl⟩
        · rw [if_neg h2, if_neg n1_0]
          exact ⟨_, _, ⟨by rw [nwM, if_neg (by simp [nwb, hcl, h2])], nI_add i 1⟩, rfl⟩
  · rintro x y again ⟨rfl, rfl⟩
    unfold m_X0_pointingNowhere_L4
    rw [hA.1, if_pos (nI_le (Nat.le_refl n) (by omega))]
theorem r_nowhere {SM : ST} {n : Nat} {kd : Nat → Nat} {tg : Nat → Int32} {rm : Nat} {lt c : Nat → Nat} (hA : AM SM n kd tg rm lt) (hW : WF0 n kd tg rm lt) (hc : OKc n c) (hN : Nw SM 3 4 n c) : m_X7_nowhereOf FU SM = some (nI (nwM tg c n)) := by
  have hn := hW.1
  unfold m_X7_nowhereOf
  refine lq2_run (fun o => o = _) n (fun i x y => x = nI (nwM tg c i) ∧ y = nI i) ?_ ?_ FU 0 _ _ (Nat.zero_le n) (by have := FU_v; omega) ⟨rfl, rfl⟩
  · rintro i x y again hi ⟨rfl, rfl⟩
    right
    have hob' : nI (nwM tg c i) ||| ((1 : Int32) <<< (nI i &&& (31 : Int32))) = nI (nwM tg c i + 2 ^ i) := or_bit (nwM_lt tg c i) (show i < 31 by omega)
    have hor0 : nI (nwM tg c i) ||| (0 : Int32) = nI (nwM tg c i) := by rw [L0, nx_or, Nat.or_zero]
    have h2f : (2 : Int32) * nI i + (1 : Int32) = nI (2 * i + 1) := by rw [show (2 : Int32) * nI i = nI (2 * i) from pk_mul 2 i]; exact nI_add _ 1
    unfold m_X7_nowhereOf_L4
    rw [hA.1, if_neg (nI_ge hi (by omega)), h2f, inB_nI (show 2 * i + 1 < 10 by omega) (by decide), inB_nI (show i < 5 by omega) (by decide)]
    simp only [gd_true, jn1, jn2, nm]
    rw [rd_nI (show 2 * i + 1 < 2 ^ 31 by omega), rd_nI (show i < 2 ^ 31 by omega), hA.2.2.2.1 i hi, hN.1 i hi, hor0, hob']
    by_cases h0 : c i % 64 = 0
    · rw [if_pos (show nI (c i % 64) = (0 : Int32) by rw [h0]; rfl)]
      exact ⟨_, _, ⟨by rw [nwM, if_neg (by simp [nwb, h0])], nI_add i 1⟩, rfl⟩
    rw [if_neg (show ¬ nI (c i % 64) = (0 : Int32) from nI_ne (b := 0) (by omega) (by decide) h0)]
    rcases hW.2.2.2.1 i hi with ht | ⟨g, hg, ht⟩
    · rw [if_pos ht]
      exact ⟨_, _, ⟨by rw [nwM, if_neg (by simp [nwb, ht])], nI_add i 1⟩, rfl⟩
    · have hcl : (tg i).toNatClampNeg = g := by rw [ht, nI_clamp (by omega)]
      have hm1 : ¬ tg i = -1 := by rw [ht]; exact nI_m1 (by omega)
      rw [ht, if_neg (nI_m1 (by omega)), inB_nI (show g < 5 by omega) (by decide), gd_true, rd_nI (show g < 2 ^ 31 by omega), hN.1 g hg]
      by_cases h2 : c g % 64 = 0
      · rw [if_pos (show nI (c g % 64) = (0 : Int32) by rw [h2]; rfl)]
        exact ⟨_, _, ⟨by rw [nwM, if_pos (by simp [nwb, h0, hm1, hcl, h2])], nI_add i 1⟩, rfl⟩
      · rw [if_neg (show ¬ nI (c g % 64) = (0 : Int32) from nI_ne (b := 0) (by omega) (by decide) h2)]
        exact ⟨_, _, ⟨by rw [nwM, if_neg (by simp [nwb, hcl, h2])], nI_add i 1⟩, rfl⟩
  · rintro x y again ⟨rfl, rfl⟩
    unfold m_X7_nowhereOf_L4
    rw [hA.1, if_pos (nI_le (Nat.le_refl n) (by omega))]
theorem op_nowhere {t : Nat} {SD SM : ST} (hR : Rel t SD SM) : ∃ (r : Int32), m_X6_nowhere FU SD = some r ∧ m_X7_nowhere FU SM = some r ∧ Rel (t + 1) SD SM := by
  have hup := hR.up
  obtain ⟨pn, n, kd, tg, rm, lt, c, am, lr, su, mv, hP, ⟨hW, hD, hM, hL, hN⟩, hC, hS, hI⟩ := hR
  unfold m_X6_nowhere m_X7_nowhere
  rw [d_nowhere hD hW.1 hW.2.1 hL, r_nowhere hM hW.1 hW.2.1 hN]
  exact ⟨_, rfl, rfl, hup⟩
theorem op_ashes {t : Nat} {SD SM : ST} (hR : Rel t SD SM) (x1 : Int32) : ∃ (r : Int32) (SD1 : ST) (SM1 : ST), m_X6_ashes FU x1 SD = some (r, SD1) ∧ m_X7_ashes FU x1 SM = some (r, SM1) ∧ Rel (t + 1) SD1 SM1 := by
  have hup := hR.up
  obtain ⟨pn, n, kd, tg, rm, lt, c, am, lr, su, mv, hP, ⟨hW, hD, hM, hL, hN⟩, hC, hS, hI⟩ := hR
  have hn := hW.1.1
  obtain ⟨s1, s2, s3, s4⟩ := hS
  have hp : 2 ^ n ≤ 32 := by
    have : 2 ^ n ≤ 2 ^ 5 := Nat.pow_le_pow_right (by decide) hn
    omega
  have hp0 : 0 < 2 ^ n := Nat.pow_pos (by decide)
  have hsh : (1 : Int32) <<< (nI n &&& (31 : Int32)) = nI (2 ^ n) := by
    have := shlN (a := 1) (l := n) (by omega) (by omega)
    rw [Nat.one_mul] at this
    exact this
  unfold m_X6_ashes m_X7_ashes
  rw [hD.1, hM.1, hsh, show (-1 : Int64) = (-1 : Int32).toInt64 from rfl, show nI (2 ^ n) - (1 : Int32) = nI (2 ^ n - 1) from pk_sub hp0, X7_in, s2, s3]
  rcases wi_cases FU x1 (-1) (nI (2 ^ n - 1)) with ⟨h, h2⟩ | ⟨h, h1, h2⟩
  · rw [h, bd_some, if_pos rfl]
    refine ⟨_, _, _, ?_, rfl, hup⟩
    by_cases a : x1 < -1
    · rw [if_pos a]
    · rw [if_neg a, if_neg]
      intro b
      refine h2 ⟨Int32.not_lt.mp a, ?_⟩
      rw [Int32.lt_iff_toInt_lt, nI_toInt (by omega)] at b
      rw [Int32.le_iff_toInt_le, nI_toInt (by omega)]
      omega
  · rw [h, bd_some, if_neg one0, if_neg (Int32.not_lt.mpr h1), if_pos (by
      rw [Int32.le_iff_toInt_le, nI_toInt (by omega)] at h2
      rw [Int32.lt_iff_toInt_lt, nI_toInt (by omega)]
      omega)]
    unfold m_X0_addAshes
    rw [s2]
    by_cases h5 : am = 5
    · subst h5
      rw [if_neg (show ¬ nI 5 < (5 : Int32) by decide), if_pos (show nI 5 = (5 : Int32) from rfl)]
      exact ⟨_, _, _, rfl, rfl, hup⟩
    · have hlt : am < 2 ^ 31 := by omega
      rw [if_pos (show nI am < (5 : Int32) from nI_lt (b := 5) (by omega) (by decide)), if_neg (show ¬ nI am = (5 : Int32) from nI_ne (b := 5) hlt (by decide) h5), if_neg (show ¬ nI am < (0 : Int32) from nI_nlt (b := 0) (Nat.zero_le am) hlt), if_neg (show ¬ (5 : Int32) ≤ nI am from nI_ge (b := 5) (by omega) (by decide)), inB_nI (show am < 5 by omega) (by decide)]
      simp only [gd_true, nm, bd2_some]
      have e1 : stI (wrA SD 4 (nI am) x1) 8 = nI am := s2
      have e2 : stI (wrA SM 9 (nI am) x1) 7 = nI am := s3
      rw [e1, e2, show nI am + (1 : Int32) = nI (am + 1) from nI_add am 1]
      refine ⟨nI (am + 1), _, _, rfl, rfl, ?_⟩
      refine ⟨pn, n, kd, tg, rm, lt, c, am + 1, lr, su, mv, hP.fr rfl rfl rfl rfl, ⟨hW, hD, hM, hL, hN⟩, hC.fr rfl rfl rfl rfl rfl rfl rfl rfl, ⟨by omega, rfl, rfl, fun i hi => ?_⟩, hI.fr rfl rfl rfl rfl rfl rfl rfl rfl rfl rfl rfl rfl rfl rfl rfl rfl⟩
      rw [stR_puI, stR_puI, (wr_at hlt).1 i, (wr_at hlt).1 i]
      by_cases e : i = am
      · rw [if_pos e, if_pos e]
      · rw [if_neg e, if_neg e]; exact s4 i (by omega)
theorem op_forget {t : Nat} {SD SM : ST} (hR : Rel t SD SM) : ∃ (r : Int32) (SD1 : ST) (SM1 : ST), m_X6_forget FU SD = some (r, SD1) ∧ m_X7_forget FU SM = some (r, SM1) ∧ Rel (t + 1) SD1 SM1 := by
  obtain ⟨pn, n, kd, tg, rm, lt, c, am, lr, su, mv, hP, ⟨hW, hD, hM, hL, hN⟩, hC, hS, hI⟩ := hR
  obtain ⟨s1, s2, s3, s4⟩ := hS
  unfold m_X6_forget m_X7_forget m_X0_clearAshes
  simp only [nm, bd2_some, s2, s3]
  refine ⟨_, _, _, rfl, rfl, ?_⟩
  exact ⟨pn, n, kd, tg, rm, lt, c, 0, lr, su, mv, hP.fr rfl rfl rfl rfl, ⟨hW, hD, hM, hL, hN⟩, hC.fr rfl rfl rfl rfl rfl rfl rfl rfl, ⟨by omega, rfl, rfl, fun i hi => by omega⟩, hI.fr rfl rfl rfl rfl rfl rfl rfl rfl rfl rfl rfl rfl rfl rfl rfl rfl⟩
