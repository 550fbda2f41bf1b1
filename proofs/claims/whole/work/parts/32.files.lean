/-! promises 6 to 13, 17, 19, 20, 24 to 26 -/
theorem in_0_1 (fu : Nat) (x : Int32) : (m_X6_within fu x 0 1 = some 0 ∧ m_X7_in fu x.toInt64 0 1 = some 0) ∨ ∃ k, k ≤ 1 ∧ x = nI k ∧ m_X6_within fu x 0 1 = some 1 ∧ m_X7_in fu x.toInt64 0 1 = some 1 := by
  rcases in_cases fu x (a := 0) (b := 1) (by decide) (by decide) with ⟨h1, h2, -⟩ | ⟨k, -, h1, h2, h3, h4⟩
  · exact Or.inl ⟨h1, h2⟩
  · exact Or.inr ⟨k, h1, h2, h3, h4⟩
theorem in_0_2 (fu : Nat) (x : Int32) : (m_X6_within fu x 0 2 = some 0 ∧ m_X7_in fu x.toInt64 0 2 = some 0) ∨ ∃ k, k ≤ 2 ∧ x = nI k ∧ m_X6_within fu x 0 2 = some 1 ∧ m_X7_in fu x.toInt64 0 2 = some 1 := by
  rcases in_cases fu x (a := 0) (b := 2) (by decide) (by decide) with ⟨h1, h2, -⟩ | ⟨k, -, h1, h2, h3, h4⟩
  · exact Or.inl ⟨h1, h2⟩
  · exact Or.inr ⟨k, h1, h2, h3, h4⟩
theorem in_0_4 (fu : Nat) (x : Int32) : (m_X6_within fu x 0 4 = some 0 ∧ m_X7_in fu x.toInt64 0 4 = some 0) ∨ ∃ k, k ≤ 4 ∧ x = nI k ∧ m_X6_within fu x 0 4 = some 1 ∧ m_X7_in fu x.toInt64 0 4 = some 1 := by
  rcases in_cases fu x (a := 0) (b := 4) (by decide) (by decide) with ⟨h1, h2, -⟩ | ⟨k, -, h1, h2, h3, h4⟩
  · exact Or.inl ⟨h1, h2⟩
  · exact Or.inr ⟨k, h1, h2, h3, h4⟩
theorem in_1_9 (fu : Nat) (x : Int32) : (m_X6_within fu x 1 9 = some 0 ∧ m_X7_in fu x.toInt64 1 9 = some 0) ∨ ∃ k, 1 ≤ k ∧ k ≤ 9 ∧ x = nI k ∧ m_X6_within fu x 1 9 = some 1 ∧ m_X7_in fu x.toInt64 1 9 = some 1 := by
  rcases in_cases fu x (a := 1) (b := 9) (by decide) (by decide) with ⟨h1, h2, -⟩ | ⟨k, h0, h1, h2, h3, h4⟩
  · exact Or.inl ⟨h1, h2⟩
  · exact Or.inr ⟨k, h0, h1, h2, h3, h4⟩
theorem in_1_60 (fu : Nat) (x : Int32) : (m_X6_within fu x 1 60 = some 0 ∧ m_X7_in fu x.toInt64 1 60 = some 0) ∨ ∃ k, 1 ≤ k ∧ k ≤ 60 ∧ x = nI k ∧ m_X6_within fu x 1 60 = some 1 ∧ m_X7_in fu x.toInt64 1 60 = some 1 := by
  rcases in_cases fu x (a := 1) (b := 60) (by decide) (by decide) with ⟨h1, h2, -⟩ | ⟨k, h0, h1, h2, h3, h4⟩
  · exact Or.inl ⟨h1, h2⟩
  · exact Or.inr ⟨k, h0, h1, h2, h3, h4⟩
theorem isKind_eq (fu : Nat) (x : Int32) : m_X2_isKind fu x = m_X6_within fu x 0 4 := by
  unfold m_X2_isKind
  rcases wi_cases fu x 0 4 with ⟨h, -⟩ | ⟨h, -⟩
  · rw [h]; rfl
  · rw [h]; rfl
theorem one0 : ¬ (1 : Int32) = 0 := by decide
theorem n1_0 : ¬ nI 1 = (0 : Int32) := by decide
theorem n0_0 : nI 0 = (0 : Int32) := rfl
theorem op_under {t : Nat} {SD SM : ST} (hR : Rel t SD SM) (x1 x2 : Int32) : ∃ (r : Int32), m_X6_under FU x1 x2 SD = some r ∧ m_X7_under FU x1 x2 SM = some r ∧ Rel (t + 1) SD SM := by
  have hup := hR.up
  obtain ⟨pn, n, kd, tg, rm, lt, c, am, lr, su, mv, hP, ⟨hW, hD, hM, hL, hN⟩, hC, hS, hI⟩ := hR
  unfold m_X6_under m_X7_under
  rcases isL_cases FU x1 with ⟨h1, h2⟩ | ⟨l, hl, rfl, h1, h2⟩
  · rw [h1, h2]; exact ⟨_, rfl, rfl, hup⟩
  · rw [h1, h2, bd_some, bd_some, if_neg one0, if_neg one0]
    rcases in_0_1 FU x2 with ⟨h3, h4⟩ | ⟨k, hk, rfl, h3, h4⟩
    · rw [h3, h4]; exact ⟨_, rfl, rfl, hup⟩
    · rw [h3, h4, bd_some, bd_some, if_neg one0, if_neg one0]
      unfold m_X7_tellUnder
      rw [hL]
      by_cases h : k = 0
      · subst h
        rw [if_pos n0_0, if_pos n0_0, d_tenthsOf hD hl, inB_nI hl (by decide), rd_nI (by omega), hM.2.2.2.2 l hl]
        exact ⟨_, rfl, rfl, hup⟩
      · have : k = 1 := by omega
        subst this
        rw [if_neg n1_0, if_neg n1_0, s_fullness FU hW.2.1.lt hl, r_fullness_4 hM hW.1 hW.2.1 hN hl FU_100]
        exact ⟨_, rfl, rfl, hup⟩
theorem full_up {c : Nat → Nat} {f v l : Nat} (hf : f < 5) : full (upc c f v) l + bitL (c f) l = full c l + bitL v l := by
  match f, hf with
  | 0, _ => simp [full, upc]; omega
  | 1, _ => simp [full, upc]; omega
  | 2, _ => simp [full, upc]; omega
  | 3, _ => simp [full, upc]; omega
  | 4, _ => simp [full, upc]; omega
theorem bit_add : ∀ x, x < 192 → ∀ l, l < 6 → bitL x l = 0 → ∀ k, k < 6 → bitL (x + 2 ^ l) k = bitL x k + (if k = l then 1 else 0) := by decide +kernel
/-- one leaf more where there is none, and room: what was well stays well -/
theorem full_add {n rm : Nat} {c : Nat → Nat} (hc : OKc n c) (hF : ∀ l, l < 6 → full c l ≤ rm) {f l : Nat} (hf : f < 5) (hl : l < 6) (hb : bitL (c f) l = 0) (hr : full c l < rm) : ∀ k, k < 6 → full (upc c f (c f + 2 ^ l)) k ≤ rm := by
  intro k hk
  have h1 := full_up (c := c) (f := f) (v := c f + 2 ^ l) (l := k) hf
  have h2 := bit_add _ (hc.1 f) l hl hb k hk
  have h3 := hF k hk
  by_cases e : k = l
  · subst e
    rw [if_pos rfl] at h2
    omega
  · rw [if_neg e] at h2
    omega
theorem OKc.add {n : Nat} {c : Nat → Nat} (hc : OKc n c) {f l : Nat} (hf : f < n) (hl : l < 6) (hb : bitL (c f) l = 0) : OKc n (upc c f (c f + 2 ^ l)) := by
  refine ⟨fun g => ?_, fun g hg => ?_⟩
  · by_cases e : g = f
    · rw [e, upc_s]; exact (tog0 _ (hc.1 f) l hl hb).2.1
    · rw [upc_n e]; exact hc.1 g
  · rw [upc_n (by omega)]; exact hc.2 g hg
set_option maxRecDepth 100000 in
theorem op_file {t : Nat} {SD SM : ST} (hR : Rel t SD SM) (x1 x2 : Int32) : ∃ (r : Int32) (SD1 : ST) (SM1 : ST), m_X6_file FU x1 x2 SD = some (r, SD1) ∧ m_X7_file FU x1 x2 SM = some (r, SM1) ∧ Rel (t + 1) SD1 SM1 := by
  have hup := hR.up
  obtain ⟨pn, n, kd, tg, rm, lt, c, am, lr, su, mv, hP, ⟨hW, hD, hM, hL, hN⟩, hC, hS, hI⟩ := hR
  have hn := hW.1.1
  unfold m_X6_file m_X7_file
  rw [isKind_eq]
  rcases in_0_4 FU x1 with ⟨h1, h2⟩ | ⟨k, hk, rfl, h1, h2⟩
  · rw [h1, h2]; exact ⟨_, _, _, rfl, rfl, hup⟩
  rw [h1, h2, bd_some, bd_some, if_neg one0, if_neg one0]
  rcases isL_cases FU x2 with ⟨h1, h2⟩ | ⟨l, hl, rfl, h1, h2⟩
  · rw [h1, h2]; exact ⟨_, _, _, rfl, rfl, hup⟩
  rw [h1, h2, bd_some, bd_some, if_neg one0, if_neg one0]
  rcases sl_cases FU hW.1.2.1 hD.2.1 hM.2.1 with ⟨h0, h1, h2⟩ | ⟨h0, h1, h2⟩
  · rw [h1, h2, bd_some, bd_some, if_pos rfl, if_neg one0]; exact ⟨_, _, _, rfl, rfl, hup⟩
  rw [h1, h2, bd_some, bd_some, if_neg one0, if_pos rfl]
  unfold m_X0_hasRoom
  rw [hL, s_fullness FU hW.2.1.lt hl, bd_some, r_fullness_4 hM hW.1 hW.2.1 hN hl FU_100, bd_some, hD.2.1, hM.2.1]
  have hfl := full_le c l
  have hr9 := hW.1.2.1
  by_cases hr : full c l < rm
  · rw [if_neg (nI_ge hr (by omega)), bd_some, if_neg one0, if_pos (nI_lt hr (by omega)), hD.1, hM.1, L5]
    by_cases h5 : n = 5
    · subst h5
      rw [if_neg (nI_nlt (Nat.le_refl 5) (by decide)), if_pos rfl]
      exact ⟨_, _, _, rfl, rfl, hup⟩
    · have hlt : n < 2 ^ 31 := by omega
      rw [if_pos (nI_lt (by omega) (by decide)), if_neg (nI_ne hlt (by decide) h5)]
      have h2n : (2 : Int32) * nI n = nI (2 * n) := pk_mul 2 n
      have h2n1 : nI (2 * n) + (1 : Int32) = nI (2 * n + 1) := nI_add _ 1
      have hcn : c n = 0 := hW.2.1.2 n (Nat.le_refl n)
      have hb0 : bitL (c n) l = 0 := by rw [hcn]; unfold bitL; simp
      have htog := (tog0 _ (hW.2.1.1 n) l hl hb0)
      have hon : (1 : Int32) <<< (nI l &&& (31 : Int32)) = nI (2 ^ l) := (nextb l hl).2.1
      unfold m_X0_add
      simp only [nm]
      rw [hD.1, L5, L0, if_neg (nI_nlt (Nat.zero_le n) hlt), if_neg (nI_ge (by omega) (by decide)), inB_nI (by omega) (by decide)]
      simp only [gd_true]
      have hs : stL (wrA (wrA SD 2 (nI n) (nI k)) 3 (nI n) (-1)) 0 = lN (enc c) := hL
      rw [hs, s_turned FU hW.2.1.lt (by omega) hl, bd_some, htog.1, bd2_some]
      -- the reference's four writings
      have i1 : stI (wrA SM 2 (nI (2 * n)) (nI k)) 4 = nI n := hM.1
      rw [h2n, inB_nI (show 2 * n < 10 by omega) (by decide), gd_true, i1, h2n, h2n1, inB_nI (show 2 * n + 1 < 10 by omega) (by decide), gd_true]
      have i2 : stI (wrA (wrA SM 2 (nI (2 * n)) (nI k)) 2 (nI (2 * n + 1)) (-1)) 4 = nI n := hM.1
      rw [i2, inB_nI (show n < 5 by omega) (by decide), gd_true, hon]
      have i3 : stI (wrA (wrA (wrA SM 2 (nI (2 * n)) (nI k)) 2 (nI (2 * n + 1)) (-1)) 3 (nI n) (nI (2 ^ l))) 4 = nI n := hM.1
      rw [i3, inB_nI (show n < 5 by omega) (by decide), gd_true]
      have i4 : stI (wrA (wrA (wrA (wrA SM 2 (nI (2 * n)) (nI k)) 2 (nI (2 * n + 1)) (-1)) 3 (nI n) (nI (2 ^ l))) 4 (nI n) (nI 0)) 4 = nI n := hM.1
      rw [i4]
      have i5 : stI (puL (wrA (wrA SD 2 (nI n) (nI k)) 3 (nI n) (-1)) 0 (lN (enc (upc c n (c n + 2 ^ l))))) 6 = nI n := hD.1
      rw [i5]
      have e1 : nI n + (1 : Int32) = nI (n + 1) := nI_add n 1
      rw [e1]
      have er : ∀ S : ST, stI (puI S 4 (nI (n + 1))) 4 = nI (n + 1) := fun _ => rfl
      rw [er, show nI (n + 1) - (1 : Int32) = nI n from nI_pred n]
      refine ⟨_, _, _, rfl, rfl, ?_⟩
      refine ⟨pn, n + 1, upc kd n k, fun f => if f = n then -1 else tg f, rm, lt, upc c n (c n + 2 ^ l), am, lr, su, mv, hP.fr rfl rfl rfl rfl, ⟨⟨⟨by omega, hr9, fun f hf => ?_, fun f hf => ?_, hW.1.2.2.2.2⟩, ⟨fun g => ?_, fun g hg => ?_⟩, full_add hW.2.1 hW.2.2.1 (by omega) hl hb0 hr, fun h => absurd h h0, hW.2.2.2.2⟩, ⟨rfl, hD.2.1, fun f hf => ?_, fun f hf => ?_, hD.2.2.2.2⟩, ⟨rfl, hM.2.1, fun f hf => ?_, fun f hf => ?_, hM.2.2.2.2⟩, rfl, fun f hf => ?_, fun f hf => ?_⟩, hC.fr rfl rfl rfl rfl rfl rfl rfl rfl, hS.fr rfl rfl rfl rfl, hI.fr rfl rfl rfl rfl rfl rfl rfl rfl rfl rfl rfl rfl rfl rfl rfl rfl⟩
      · by_cases e : f = n
        · rw [e, upc_s]; exact hk
        · rw [upc_n e]; exact hW.1.2.2.1 f (by omega)
      · show (if f = n then (-1 : Int32) else tg f) = -1 ∨ ∃ g, g < n + 1 ∧ (if f = n then (-1 : Int32) else tg f) = nI g
        by_cases e : f = n
        · rw [if_pos e]; exact Or.inl rfl
        · rw [if_neg e]
          rcases hW.1.2.2.2.1 f (by omega) with h | ⟨g, hg, h⟩
          · exact Or.inl h
          · exact Or.inr ⟨g, by omega, h⟩
      · by_cases e : g = n
        · rw [e, upc_s]; exact htog.2.1
        · rw [upc_n e]; exact hW.2.1.1 g
      · rw [upc_n (by omega)]; exact hW.2.1.2 g (by omega)
      · show stR (wrA SD 2 (nI n) (nI k)) 2 f = _
        rw [(wr_at hlt).1 f]
        by_cases e : f = n
        · rw [if_pos e, e, upc_s]
        · rw [if_neg e, upc_n e]; exact hD.2.2.1 f (by omega)
      · show stR (wrA (wrA SD 2 (nI n) (nI k)) 3 (nI n) (-1)) 3 f = if f = n then (-1 : Int32) else tg f
        rw [(wr_at hlt).1 f]
        by_cases e : f = n
        · rw [if_pos e, if_pos e]
        · rw [if_neg e, if_neg e]; exact hD.2.2.2.1 f (by omega)
      · rw [stR_puI, (wr_at hlt).2.1 2 (by decide), (wr_at hlt).2.1 2 (by decide), (wr_at (show 2 * n + 1 < 2 ^ 31 by omega)).1, (wr_at (show 2 * n < 2 ^ 31 by omega)).1, if_neg (show ¬ 2 * f = 2 * n + 1 by omega)]
        by_cases e : f = n
        · rw [if_pos (show 2 * f = 2 * n by omega), e, upc_s]
        · rw [if_neg (show ¬ 2 * f = 2 * n by omega), upc_n e]; exact hM.2.2.1 f (by omega)
      · rw [stR_puI, (wr_at hlt).2.1 2 (by decide), (wr_at hlt).2.1 2 (by decide), (wr_at (show 2 * n + 1 < 2 ^ 31 by omega)).1, (wr_at (show 2 * n < 2 ^ 31 by omega)).1]
        show _ = if f = n then (-1 : Int32) else tg f
        by_cases e : f = n
        · rw [if_pos (show 2 * f + 1 = 2 * n + 1 by omega), if_pos e]
        · rw [if_neg (show ¬ 2 * f + 1 = 2 * n + 1 by omega), if_neg (show ¬ 2 * f + 1 = 2 * n by omega), if_neg e]; exact hM.2.2.2.1 f (by omega)
      · rw [stR_puI, (wr_at hlt).2.1 3 (by decide), (wr_at hlt).1 f, (wr_at (show 2 * n + 1 < 2 ^ 31 by omega)).2.1 3 (by decide), (wr_at (show 2 * n < 2 ^ 31 by omega)).2.1 3 (by decide)]
        by_cases e : f = n
        · rw [if_pos e, e, upc_s, htog.2.2.2.1, hcn]; simp
        · rw [if_neg e, upc_n e]; exact hN.1 f (by omega)
      · rw [stR_puI, (wr_at hlt).1 f, (wr_at hlt).2.1 4 (by decide), (wr_at (show 2 * n + 1 < 2 ^ 31 by omega)).2.1 4 (by decide), (wr_at (show 2 * n < 2 ^ 31 by omega)).2.1 4 (by decide)]
        by_cases e : f = n
        · rw [if_pos e, e, upc_s, htog.2.2.2.2, hcn]
        · rw [if_neg e, upc_n e]; exact hN.2 f (by omega)
  · rw [if_pos (nI_le (by omega) (by omega)), bd_some, if_pos rfl, if_neg (nI_nlt (by omega) (by omega))]
    exact ⟨_, _, _, rfl, rfl, hup⟩
def nam (kd : Nat) : Nat := if kd = 1 then 6 else if kd ≤ 2 then 2 else 3
theorem d_namesOf (fu : Nat) : ∀ k, k ≤ 4 → m_X2_namesOf fu (nI k) = some (nI (nam k)) := by
  have h : ∀ k, k ≤ 4 → m_X2_namesOf 0 (nI k) = some (nI (nam k)) := by decide +kernel
  exact h
theorem r_namesOf {SM : ST} {n : Nat} {kd : Nat → Nat} {tg : Nat → Int32} {rm : Nat} {lt : Nat → Nat} (fu : Nat) (hA : AM SM n kd tg rm lt) (hW : WF0 n kd tg rm lt) {f : Nat} (hf : f < n) : m_X7_namesOf fu (nI f) SM = some (nI (nam (kd f))) := by
  have hn := hW.1
  have hk := hW.2.2.1 f hf
  unfold m_X7_namesOf nam
  rw [show (2 : Int32) * nI f = nI (2 * f) from pk_mul 2 f, inB_nI (show 2 * f < 10 by omega) (by decide)]
  simp only [gd_true, nm]
  rw [rd_nI (by omega), hA.2.2.1 f hf, L1, L2]
  by_cases h1 : kd f = 1
  · rw [h1]; rfl
  · rw [if_neg (nI_ne (by omega) (by decide) h1), if_neg h1]
    by_cases h2 : kd f ≤ 2
    · rw [if_pos (nI_le h2 (by decide)), if_pos h2]
    · rw [if_neg (nI_ge (by omega) (by omega)), if_neg h2]; rfl
theorem op_about {t : Nat} {SD SM : ST} (hR : Rel t SD SM) (x1 x2 : Int32) : ∃ (r : Int32), m_X6_about FU x1 x2 SD = some r ∧ m_X7_about FU x1 x2 SM = some r ∧ Rel (t + 1) SD SM := by
  have hup := hR.up
  obtain ⟨pn, n, kd, tg, rm, lt, c, am, lr, su, mv, hP, ⟨hW, hD, hM, hL, hN⟩, hC, hS, hI⟩ := hR
  have hn := hW.1.1
  unfold m_X6_about m_X7_about
  rcases has_cases FU hn hD.1 hM.1 x1 with ⟨h1, h2, -⟩ | ⟨f, hf, rfl, h1, h2⟩
  · rw [h1, h2]; exact ⟨_, rfl, rfl, hup⟩
  rw [h1, h2, bd_some, bd_some, if_neg one0, if_neg one0]
  unfold m_X7_tell
  have hc := hW.2.1
  have h5 := hc.1 f
  rw [show (2 : Int32) * nI f = nI (2 * f) from pk_mul 2 f, show nI (2 * f) + (1 : Int32) = nI (2 * f + 1) from nI_add _ 1, inB_nI (show 2 * f < 10 by omega) (by decide), inB_nI (show 2 * f + 1 < 10 by omega) (by decide), inB_nI (show f < 5 by omega) (by decide)]
  simp only [gd_true]
  rw [rd_nI (show 2 * f < 2 ^ 31 by omega), rd_nI (show 2 * f + 1 < 2 ^ 31 by omega), rd_nI (show f < 2 ^ 31 by omega), rd_nI (show f < 2 ^ 31 by omega), hM.2.2.1 f hf, hM.2.2.2.1 f hf, hN.1 f hf, hN.2 f hf, r_namesOf FU hM hW.1 hf, hL, d_kindOf hD hW.1 hf, s_leavesOf FU hc.lt (by omega), d_targetOf hD hW.1 hf, s_keptOf FU hc.lt (by omega), s_lives FU hc.lt (by omega)]
  simp only [bd_some, d_namesOf FU _ (hW.1.2.2.1 f hf)]
  by_cases e0 : x2 = 0
  · rw [if_pos e0, if_pos e0]; exact ⟨_, rfl, rfl, hup⟩
  rw [if_neg e0, if_neg e0]
  by_cases e1 : x2 = 1
  · rw [if_pos e1, if_pos e1]; exact ⟨_, rfl, rfl, hup⟩
  rw [if_neg e1, if_neg e1]
  by_cases e2 : x2 = 2
  · rw [if_pos e2, if_pos e2]; exact ⟨_, rfl, rfl, hup⟩
  rw [if_neg e2, if_neg e2]
  by_cases e3 : x2 = 3
  · rw [if_pos e3, if_pos e3]; exact ⟨_, rfl, rfl, hup⟩
  rw [if_neg e3, if_neg e3]
  by_cases e4 : x2 = 4
  · rw [if_pos e4, if_pos e4]
    by_cases h0 : c f % 64 = 0
    · rw [h0]; exact ⟨_, rfl, rfl, hup⟩
    · rw [if_neg h0, if_neg n1_0, if_neg (show ¬ nI (c f % 64) = (0 : Int32) from nI_ne (b := 0) (by omega) (by decide) h0)]; exact ⟨_, rfl, rfl, hup⟩
  rw [if_neg e4, if_neg e4]
  by_cases e5 : x2 = 5
  · simp only [if_pos e5, bd_some]; exact ⟨_, rfl, rfl, hup⟩
  simp only [if_neg e5, bd_some]
  exact ⟨_, rfl, rfl, hup⟩
theorem as_eq : ∀ k, k ≤ 4 → ∀ j, j ≤ 4 → ∀ x : Int32, bd (m_X2_isSuch FU (nI k) (nI j)) (fun v_10 => (if v_10 = (0 : Int32) then some (-1 : Int32) else some x)) = (jn1 (fun (v_8 : Int32) => (if v_8 = (0 : Int32) then some (-1 : Int32) else some x)) (fun j_9 => jn0 (j_9 (1 : Int32)) (fun j_11 => (if nI j = (0 : Int32) then j_11 else (if nI j = nI k then j_11 else jn0 (j_9 (0 : Int32)) (fun j_14 => (if nI j = (3 : Int32) then (if nI k = (4 : Int32) then j_11 else j_14) else j_14))))))) := by
  intro k hk j hj x
  match k, hk with
  | 0, _ => match j, hj with
    | 0, _ => rfl
    | 1, _ => rfl
    | 2, _ => rfl
    | 3, _ => rfl
    | 4, _ => rfl
  | 1, _ => match j, hj with
    | 0, _ => rfl
    | 1, _ => rfl
    | 2, _ => rfl
    | 3, _ => rfl
    | 4, _ => rfl
  | 2, _ => match j, hj with
    | 0, _ => rfl
    | 1, _ => rfl
    | 2, _ => rfl
    | 3, _ => rfl
    | 4, _ => rfl
  | 3, _ => match j, hj with
    | 0, _ => rfl
    | 1, _ => rfl
    | 2, _ => rfl
    | 3, _ => rfl
    | 4, _ => rfl
  | 4, _ => match j, hj with
    | 0, _ => rfl
    | 1, _ => rfl
    | 2, _ => rfl
    | 3, _ => rfl
    | 4, _ => rfl
theorem as_some : ∀ k, k ≤ 4 → ∀ j, j ≤ 4 → ∀ x : Int32, ∃ r, bd (m_X2_isSuch FU (nI k) (nI j)) (fun v_10 => (if v_10 = (0 : Int32) then some (-1 : Int32) else some x)) = some r := by
  intro k hk j hj x
  have h : ∀ k, k ≤ 4 → ∀ j, j ≤ 4 → m_X2_isSuch 0 (nI k) (nI j) = some 0 ∨ m_X2_isSuch 0 (nI k) (nI j) = some 1 := by decide +kernel
  rcases h k hk j hj with h | h
  · rw [show m_X2_isSuch FU (nI k) (nI j) = some 0 from h]; exact ⟨_, rfl⟩
  · rw [show m_X2_isSuch FU (nI k) (nI j) = some 1 from h]; exact ⟨_, rfl⟩
theorem op_as {t : Nat} {SD SM : ST} (hR : Rel t SD SM) (x1 x2 : Int32) : ∃ (r : Int32), m_X6_as FU x1 x2 SD = some r ∧ m_X7_as FU x1 x2 SM = some r ∧ Rel (t + 1) SD SM := by
  have hup := hR.up
  obtain ⟨pn, n, kd, tg, rm, lt, c, am, lr, su, mv, hP, ⟨hW, hD, hM, hL, hN⟩, hC, hS, hI⟩ := hR
  have hn := hW.1.1
  unfold m_X6_as m_X7_as
  rw [isKind_eq]
  rcases has_cases FU hn hD.1 hM.1 x1 with ⟨h1, h2, -⟩ | ⟨f, hf, rfl, h1, h2⟩
  · rw [h1, h2]; exact ⟨_, rfl, rfl, hup⟩
  rw [h1, h2, bd_some, bd_some, if_neg one0, if_neg one0]
  rcases in_0_4 FU x2 with ⟨h3, h4⟩ | ⟨k, hk, rfl, h3, h4⟩
  · rw [h3, h4]; exact ⟨_, rfl, rfl, hup⟩
  rw [h3, h4, bd_some, bd_some, if_neg one0, if_neg one0, d_kindOf hD hW.1 hf, bd_some, show (2 : Int32) * nI f = nI (2 * f) from pk_mul 2 f, inB_nI (show 2 * f < 10 by omega) (by decide), gd_true]
  simp only [nm]
  rw [rd_nI (show 2 * f < 2 ^ 31 by omega), hM.2.2.1 f hf, ← as_eq _ (hW.1.2.2.1 f hf) _ hk]
  obtain ⟨r, hr⟩ := as_some _ (hW.1.2.2.1 f hf) _ hk (nI f)
  rw [hr]
  exact ⟨_, rfl, rfl, hup⟩
