/-! years: drawn by the seed -/
def nsd (x : Int32) : Int32 := (((((1103515245 : Int64) * x.toInt64) + (12345 : Int64)) &&& (2147483647 : Int64))).toInt32
theorem nsd_nI (x : Int32) : ∃ m, m < 2 ^ 31 ∧ nsd x = nI m := by
  obtain ⟨k, hk, e⟩ := wb_of (((1103515245 : Int64) * x.toInt64) + (12345 : Int64))
  refine ⟨k % 2 ^ 31, Nat.mod_lt _ (by decide), ?_⟩
  unfold nsd
  rw [e, show (2147483647 : Int64) = lN (2 ^ 31 - 1) from rfl, wb_mask hk (by decide), ← nI_l (Nat.mod_lt _ (by decide)), Int32.toInt32_toInt64]
theorem drawn (x : Int32) : ∃ q, q < 10 ∧ (nsd x / (65536 : Int32)) - (nsd x / (65536 : Int32)) / (10 : Int32) * (10 : Int32) = nI q := by
  obtain ⟨m, hm, e⟩ := nsd_nI x
  refine ⟨m / 65536 % 10, Nat.mod_lt _ (by decide), ?_⟩
  have h1 : nI m / (65536 : Int32) = nI (m / 65536) := pk_div (d := 65536) hm (by decide) (by decide)
  have h2 : nI (m / 65536) - nI (m / 65536) / (10 : Int32) * (10 : Int32) = nI (m / 65536 % 10) := pk_rem (d := 10) (by omega) (by decide) (by decide)
  rw [e, h1, h2]
def pl (lt : Nat → Nat) : Nat → Nat → Nat → Nat
  | 0, _, _ => 5
  | j + 1, i, q => if q < lt i then i else pl lt j (i + 1) (q - lt i)
theorem pl_lt {lt : Nat → Nat} : ∀ j i q, i + j ≤ 5 → pl lt j i q < 6
  | 0, _, _, _ => by show 5 < 6; decide
  | j + 1, i, q, h => by
    unfold pl
    split
    · omega
    · exact pl_lt j (i + 1) _ (by omega)
theorem sgn {q a : Nat} (hq : q < 100) (ha : a ≤ 10) : (q < a ∧ ¬ (0 : Int32) ≤ nI q - nI a) ∨ (a ≤ q ∧ (0 : Int32) ≤ nI (q - a) ∧ nI q - nI a = nI (q - a)) := by
  rcases Nat.lt_or_ge q a with h | h
  · refine Or.inl ⟨h, ?_⟩
    rw [Int32.le_iff_toInt_le, pk_sub_toInt (by omega) (by omega)]
    have : (0 : Int32).toInt = 0 := by decide
    omega
  · exact Or.inr ⟨h, nI_le (a := 0) (by omega) (by omega), pk_sub h⟩
section YEARS
variable {SD SM : ST} {n : Nat} {kd : Nat → Nat} {tg : Nat → Int32} {rm : Nat} {lt : Nat → Nat}
theorem d_letterBy (hA : AD SD n kd tg rm lt) (hW : WF0 n kd tg rm lt) {q : Nat} (hq : q < 100) : m_X3_letterByDraw FU (nI q) SD = some (nI (pl lt 5 0 q)) := by
  unfold m_X3_letterByDraw
  have key : ∀ j N i q, q < 100 → i + j = 5 → j < N → lq2 (m_X3_letterByDraw_L4 FU SD) N (nI q) (nI i) = some (nI (pl lt j i q)) := by
    intro j
    induction j with
    | zero =>
      intro N i q hq h1 h2
      obtain ⟨N', rfl⟩ : ∃ N', N = N' + 1 := ⟨N - 1, by omega⟩
      rw [lq2_s]
      unfold m_X3_letterByDraw_L4
      rw [if_pos (show (5 : Int32) ≤ nI i from nI_le (a := 5) (by omega) (by omega))]
      rfl
    | succ j ih =>
      intro N i q hq h1 h2
      obtain ⟨N', rfl⟩ : ∃ N', N = N' + 1 := ⟨N - 1, by omega⟩
      have hi : i < 6 := by omega
      rw [lq2_s]
      have ih1 := fun q hq => ih N' (i + 1) q hq (by omega) (by omega)
      obtain ⟨ag, eag⟩ : ∃ g, g = lq2 (m_X3_letterByDraw_L4 FU SD) N' := ⟨_, rfl⟩
      rw [← eag] at ih1 ⊢
      unfold m_X3_letterByDraw_L4
      rw [if_neg (show ¬ (5 : Int32) ≤ nI i from nI_ge (b := 5) (by omega) (by decide)), d_tenthsOf hA hi, bd_some, nm_eqv, nm_eqv, pl, show nI i + (1 : Int32) = nI (i + 1) from nI_add i 1]
      rcases sgn hq (hW.2.2.2.2 i hi) with ⟨h, g⟩ | ⟨h, g, e⟩
      · rw [if_neg g, if_pos h]
      · rw [e, if_pos g, if_neg (by omega), ih1 _ (by omega)]
  exact key 5 FU 0 q hq (by omega) (by have := FU_v; omega)
theorem r_lotOf (hA : AM SM n kd tg rm lt) (hW : WF0 n kd tg rm lt) {q : Nat} (hq : q < 100) : m_X7_lotOf FU (nI q) SM = some (nI (pl lt 5 0 q)) := by
  unfold m_X7_lotOf
  have key : ∀ j N i q, q < 100 → i + j = 5 → j + 1 < N → lq2 (m_X7_lotOf_L4 FU SM) N (nI q) (nI i) = some (nI (pl lt j i q)) := by
    intro j
    induction j with
    | zero =>
      intro N i q hq h1 h2
      obtain ⟨N', rfl⟩ : ∃ N', N = N' + 1 := ⟨N - 1, by omega⟩
      obtain ⟨N2, rfl⟩ : ∃ N2, N' = N2 + 1 := ⟨N' - 1, by omega⟩
      have hi : i = 5 := by omega
      subst hi
      have h6 : ∀ x, lq2 (m_X7_lotOf_L4 FU SM) (N2 + 1) x (nI 6) = some 5 := fun x => by
        rw [lq2_s]
        unfold m_X7_lotOf_L4
        rw [if_pos (show (6 : Int32) ≤ nI 6 by decide)]
      rw [lq2_s]
      obtain ⟨ag, eag⟩ : ∃ g, g = lq2 (m_X7_lotOf_L4 FU SM) (N2 + 1) := ⟨_, rfl⟩
      rw [← eag] at h6 ⊢
      unfold m_X7_lotOf_L4
      rw [if_neg (show ¬ (6 : Int32) ≤ nI 5 by decide), inB_nI (show 5 < 6 by decide) (by decide), gd_true, nm_eqv, nm_eqv, show nI 5 + (1 : Int32) = nI 6 from nI_add 5 1, h6]
      split <;> rfl
    | succ j ih =>
      intro N i q hq h1 h2
      obtain ⟨N', rfl⟩ : ∃ N', N = N' + 1 := ⟨N - 1, by omega⟩
      have hi : i < 6 := by omega
      rw [lq2_s]
      have ih1 := fun q hq => ih N' (i + 1) q hq (by omega) (by omega)
      obtain ⟨ag, eag⟩ : ∃ g, g = lq2 (m_X7_lotOf_L4 FU SM) N' := ⟨_, rfl⟩
      rw [← eag] at ih1 ⊢
      unfold m_X7_lotOf_L4
      rw [if_neg (show ¬ (6 : Int32) ≤ nI i from nI_ge (b := 6) hi (by decide)), inB_nI hi (by decide), gd_true, nm_eqv, nm_eqv, rd_nI (show i < 2 ^ 31 by omega), hA.2.2.2.2 i hi, pl, show nI i + (1 : Int32) = nI (i + 1) from nI_add i 1]
      rcases sgn hq (hW.2.2.2.2 i hi) with ⟨h, g⟩ | ⟨h, g, e⟩
      · rw [if_neg g, if_pos h]
      · rw [e, if_pos g, if_neg (by omega), ih1 _ (by omega)]
  exact key 5 FU 0 q hq (by omega) (by have := FU_v; omega)
/-- the leaves and the seed after k years -/
noncomputable def yS (n : Nat) (kd : Nat → Nat) (tg : Nat → Int32) (rm : Nat) (lt : Nat → Nat) (c : Nat → Nat) (x : Int32) : Nat → (Nat → Nat) × Int32
  | 0 => (c, x)
  | k + 1 => (passC n kd tg rm (yS n kd tg rm lt c x k).1 (pl lt 5 0 (Classical.choose (drawn (yS n kd tg rm lt c x k).2))), nsd (yS n kd tg rm lt c x k).2)
theorem yS_ok (hW : WF0 n kd tg rm lt) {c : Nat → Nat} {x : Int32} (hc : OKc n c) : ∀ k, OKc n (yS n kd tg rm lt c x k).1
  | 0 => hc
  | k + 1 => passC_ok hW (yS_ok hW hc k) (pl_lt 5 0 _ (by omega))
theorem d_yearsL (hA : AD SD n kd tg rm lt) (hW : WF0 n kd tg rm lt) {c : Nat → Nat} (hc : OKc n c) {y : Nat} (hy : y ≤ 60) (x x3 : Int32) (K : Int64 → Int32 → Option Int32) : lq3 (m_X6_years_L54 FU (nI y) x3 SD K) FU (lN (enc c)) x (0 : Int32) = K (lN (enc (yS n kd tg rm lt c x y).1)) (yS n kd tg rm lt c x y).2 := by
  refine lq3_run (fun o => o = K (lN (enc (yS n kd tg rm lt c x y).1)) (yS n kd tg rm lt c x y).2) y (fun i a b d => a = lN (enc (yS n kd tg rm lt c x i).1) ∧ b = (yS n kd tg rm lt c x i).2 ∧ d = nI i) ?_ ?_ FU 0 _ _ _ (by omega) (by have := FU_v; omega) ⟨rfl, rfl, rfl⟩
  · rintro i a b d again hi ⟨rfl, rfl, rfl⟩
    right
    have hq := Classical.choose_spec (drawn (yS n kd tg rm lt c x i).2)
    have hci := yS_ok (lt := lt) (x := x) hW hc i
    have hl : pl lt 5 0 (Classical.choose (drawn (yS n kd tg rm lt c x i).2)) < 6 := pl_lt 5 0 _ (by omega)
    unfold m_X6_years_L54
    rw [if_neg (nI_ge hi (by omega)), show m_X6_nextSeed FU (yS n kd tg rm lt c x i).2 = some (nsd (yS n kd tg rm lt c x i).2) from rfl, bd_some, hq.2, d_letterBy hA hW (by omega), bd_some, d_burntDown hA hW hci hl FU_100, bd_some, d_rumoursGrown hA hW (burnC_ok hW hci hl) FU_100, bd_some, nm_eqv]
    exact ⟨_, _, _, ⟨rfl, rfl, nI_add i 1⟩, rfl⟩
  · rintro a b d again ⟨rfl, rfl, rfl⟩
    unfold m_X6_years_L54
    rw [if_pos (nI_le (Nat.le_refl y) (by omega))]
theorem r_yearsL (hA : AM SM n kd tg rm lt) (hW : WF0 n kd tg rm lt) {c : Nat → Nat} (hc : OKc n c) {S0 : ST} (hS0 : Sc SM S0) (hN : Nw S0 5 6 n c) {x : Int32} (hx0 : stI S0 8 = x) {y : Nat} (hy : y ≤ 60) (x3 : Int32) (K : ST → Option (Int32 × ST)) : ∃ S', lq2 (m_X7_years_L53 FU (nI y) x3 K) FU (0 : Int32) S0 = K S' ∧ Sc SM S' ∧ Nw S' 5 6 n (yS n kd tg rm lt c x y).1 ∧ stI S' 8 = (yS n kd tg rm lt c x y).2 := by
  refine lq2_run (fun o => ∃ S', o = K S' ∧ Sc SM S' ∧ Nw S' 5 6 n (yS n kd tg rm lt c x y).1 ∧ stI S' 8 = (yS n kd tg rm lt c x y).2) y (fun i d S => d = nI i ∧ Sc SM S ∧ Nw S 5 6 n (yS n kd tg rm lt c x i).1 ∧ stI S 8 = (yS n kd tg rm lt c x i).2) ?_ ?_ FU 0 _ _ (by omega) (by have := FU_v; omega) ⟨rfl, hS0, hN, hx0⟩
  · rintro i d S again hi ⟨rfl, hs, hNi, h8⟩
    right
    have hq := Classical.choose_spec (drawn (yS n kd tg rm lt c x i).2)
    have hci := yS_ok (lt := lt) (x := x) hW hc i
    have hl : pl lt 5 0 (Classical.choose (drawn (yS n kd tg rm lt c x i).2)) < 6 := pl_lt 5 0 _ (by omega)
    have hs1 : Sc SM (puI S 8 (nsd (yS n kd tg rm lt c x i).2)) := ⟨fun k hk => by rw [stI_puI, if_neg hk]; exact hs.1 k hk, fun k hk => hs.2 k hk⟩
    have hA1 := hA.sc hs1
    have hN1 : Nw (puI S 8 (nsd (yS n kd tg rm lt c x i).2)) 5 6 n (yS n kd tg rm lt c x i).1 := hNi
    obtain ⟨S2, e2, x2, n2⟩ := r_pass hA1 hW hci hN1 hl FU_100
    have hdr : m_X7_draw FU (10 : Int32) S = some (nI (Classical.choose (drawn (yS n kd tg rm lt c x i).2)), puI S 8 (nsd (yS n kd tg rm lt c x i).2)) := by
      unfold m_X7_draw
      rw [h8, nm_eqv, decide_eq_true (show ¬ (10 : Int32) = 0 by decide), gd_true, stI_puI, if_pos rfl]
      exact pairE hq.2
    unfold m_X7_years_L53
    rw [if_neg (nI_ge hi (by omega)), hdr, bd2_some, r_lotOf hA1 hW (by omega), bd_some, e2, bd2_some, nm_eqv]
    exact ⟨_, _, ⟨nI_add i 1, hs1.tr (x2.sc (by decide)), n2, (x2.1 8).trans (by rw [stI_puI, if_pos rfl]; rfl)⟩, rfl⟩
  · rintro d S again ⟨rfl, hs, hNi, h8⟩
    unfold m_X7_years_L53
    rw [if_pos (nI_le (Nat.le_refl y) (by omega))]
    exact ⟨S, rfl, hs, hNi, h8⟩
theorem r_leaves {S : ST} (hA : AM S n kd tg rm lt) (hn : n ≤ 5) {c : Nat → Nat} (hc : OKc n c) (hN : Nw S 5 6 n c) (x3 : Int32) (K : Int32 → Option (Int32 × ST)) : lq2 (m_X7_years_L87 FU x3 S K) FU (0 : Int32) (0 : Int32) = K (nI (allL c)) := by
  rw [← allN hn hc]
  refine lq2_run (fun o => o = K (nI (sumN (fun f => pop (c f % 64)) n))) n (fun i a b => a = nI (sumN (fun f => pop (c f % 64)) i) ∧ b = nI i) ?_ ?_ FU 0 _ _ (by omega) (by have := FU_v; omega) ⟨rfl, rfl⟩
  · rintro i a b again hi ⟨rfl, rfl⟩
    right
    unfold m_X7_years_L87
    rw [hA.1, if_neg (nI_ge hi (by omega)), inB_nI (show i < 5 by omega) (by decide), gd_true, rd_nI (show i < 2 ^ 31 by omega), hN.1 i hi, r_ones (Nat.mod_lt _ (by decide)) FU_100, bd_some, nm_eqv, nm_eqv]
    exact ⟨_, _, ⟨nI_add _ _, nI_add i 1⟩, rfl⟩
  · rintro a b again ⟨rfl, rfl⟩
    unfold m_X7_years_L87
    rw [hA.1, if_pos (nI_le (Nat.le_refl n) (by omega))]
end YEARS
theorem op_years {t : Nat} {SD SM : ST} (hR : Rel t SD SM) (x1 x2 x3 : Int32) : ∃ (r : Int32) (SM1 : ST), m_X6_years FU x1 x2 x3 SD = some r ∧ m_X7_years FU x1 x2 x3 SM = some (r, SM1) ∧ Rel (t + 1) SD SM1 := by
  have hup := hR.up
  obtain ⟨pn, n, kd, tg, rm, lt, c, am, lr, su, mv, hP, ⟨hW, hD, hM, hL, hN⟩, hC, hS, hI⟩ := hR
  have hn := hW.1.1
  unfold m_X6_years m_X7_years
  rcases in_1_60 FU x1 with ⟨h1, h2⟩ | ⟨y, hy1, hy, rfl, h1, h2⟩
  · rw [h1, h2]; exact ⟨_, _, rfl, rfl, hup⟩
  rw [h1, h2, bd_some, bd_some, if_neg one0, if_neg one0]
  by_cases hneg : x2 < 0
  · rw [if_pos hneg, if_pos hneg]; exact ⟨_, _, rfl, rfl, hup⟩
  rw [if_neg hneg, if_neg hneg]
  rcases in_0_2 FU x3 with ⟨h3, h4⟩ | ⟨p, hp, rfl, h3, h4⟩
  · rw [h3, h4]; exact ⟨_, _, rfl, rfl, hup⟩
  rw [h3, h4, bd_some, bd_some, if_neg one0, if_neg one0]
  rcases sl_cases FU hW.1.2.1 hD.2.1 hM.2.1 with ⟨h0, h7, h8⟩ | ⟨h0, h7, h8⟩
  · rw [h7, h8]; exact ⟨_, _, rfl, rfl, hup⟩
  rw [h7, h8, bd_some, bd_some, if_neg one0, if_pos rfl]
  obtain ⟨S1, e1, x1, a5, a6⟩ := r_asItIs (SM := SM) FU_100
  rw [e1, bd_some, nm_eqv, nm_eqv, hL]
  simp only [jn1, jn2]
  have hs1 : Sc SM (puI S1 8 x2) := ⟨fun k hk => by rw [stI_puI, if_neg hk]; exact x1.1 k, fun k hk => (x1.sc (by decide)).2 k hk⟩
  have hN1 : Nw (puI S1 8 x2) 5 6 n c := ⟨fun g hg => (a5 g (by omega)).trans (hN.1 g hg), fun g hg => (a6 g (by omega)).trans (hN.2 g hg)⟩
  obtain ⟨S2, e2, s2, n2, q2⟩ := r_yearsL hM hW.1 hW.2.1 hs1 hN1 (x := x2) (by rw [stI_puI, if_pos rfl]) hy (nI p) (fun S_14 => lq2 (m_X7_years_L87 FU (nI p) S_14 (fun x4_16 => (if nI p = (0 : Int32) then bd (m_X7_livesNow FU S_14) (fun v_21 => some (v_21, S_14)) else (if nI p = (1 : Int32) then some (x4_16, S_14) else some ((stI S_14 8), S_14))))) FU (0 : Int32) (0 : Int32))
  have hc2 := yS_ok (lt := lt) (x := x2) hW.1 hW.2.1 y
  have hA2 := hM.sc s2
  rw [e2, r_leaves hA2 hn hc2 n2, d_yearsL hD hW.1 hW.2.1 hy, r_livesNow hA2 hn hc2 n2, bd_some, q2]
  rw [d_living hc2.lt FU_100, bd_some, s_allLeaves FU hc2.lt, bd_some]
  refine ⟨if nI p = (0 : Int32) then nI (livM (yS n kd tg rm lt c x2 y).1 5) else if nI p = (1 : Int32) then nI (allL (yS n kd tg rm lt c x2 y).1) else (yS n kd tg rm lt c x2 y).2, S2, ?_, ?_, hup.sc s2⟩
  · by_cases hp0 : nI p = (0 : Int32)
    · rw [if_pos hp0, if_pos hp0]
    · rw [if_neg hp0, if_neg hp0]
      by_cases hp1 : nI p = (1 : Int32)
      · rw [if_pos hp1, if_pos hp1]
      · rw [if_neg hp1, if_neg hp1]
  · by_cases hp0 : nI p = (0 : Int32)
    · rw [if_pos hp0, if_pos hp0]
    · rw [if_neg hp0, if_neg hp0]
      by_cases hp1 : nI p = (1 : Int32)
      · rw [if_pos hp1, if_pos hp1]
      · rw [if_neg hp1, if_neg hp1]
