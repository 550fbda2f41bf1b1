/-! the digest: both mix the same numbers in the same order -/
def DI (SM : ST) (h : Int64) (S : ST) : Prop := Sc SM S ∧ stL S 0 = h
theorem DI.say {SM S : ST} {h : Int64} (hd : DI SM h S) (v : Int64) : m_X7_say FU v S = some (puL S 0 (31 * h + v)) ∧ DI SM (31 * h + v) (puL S 0 (31 * h + v)) := by
  refine ⟨?_, ⟨hd.1.1, hd.1.2⟩, rfl⟩
  unfold m_X7_say
  rw [hd.2, nm_eqv]
theorem DI.ex {SM S S' : ST} {h : Int64} {xs : List Nat} (hd : DI SM h S) (hx : Ex xs S S') (hs : ∀ k, k ∈ xs → k ∈ [5, 6, 7, 8, 10]) : DI SM h S' := ⟨hd.1.tr (hx.sc hs), (hx.2.1 0).trans hd.2⟩
theorem mixed_e (h v : Int64) : m_X6_mixed FU h v = some (31 * h + v) := rfl
theorem lock {ρ1 ρ2 : Type} {b1 : (Int64 → Int32 → Option ρ1) → Int64 → Int32 → Option ρ1} {b2 : (Int32 → ST → Option ρ2) → Int32 → ST → Option ρ2} {N : Nat} {Inv : Int64 → ST → Prop} (step : ∀ k h S, k < N → Inv h S → ∃ h' S', Inv h' S' ∧ (∀ ag, b1 ag h (nI k) = ag h' (nI (k + 1))) ∧ (∀ ag, b2 ag (nI k) S = ag (nI (k + 1)) S')) {h : Int64} {S : ST} (hI : Inv h S) : ∀ k, k ≤ N → ∃ h' S', Inv h' S' ∧ (∀ M, lq2 b1 (M + k) h (nI 0) = lq2 b1 M h' (nI k)) ∧ (∀ M, lq2 b2 (M + k) (nI 0) S = lq2 b2 M (nI k) S')
  | 0, _ => ⟨h, S, hI, fun _ => rfl, fun _ => rfl⟩
  | k + 1, hk => by
    obtain ⟨h1, S1, i1, e1, e2⟩ := lock step hI k (by omega)
    obtain ⟨h2, S2, i2, f1, f2⟩ := step k h1 S1 (by omega) i1
    refine ⟨h2, S2, i2, fun M => ?_, fun M => ?_⟩
    · rw [show M + (k + 1) = (M + 1) + k by omega, e1, lq2_s, f1]
    · rw [show M + (k + 1) = (M + 1) + k by omega, e2, lq2_s, f2]
theorem lock_end {ρ1 ρ2 : Type} {b1 : (Int64 → Int32 → Option ρ1) → Int64 → Int32 → Option ρ1} {b2 : (Int32 → ST → Option ρ2) → Int32 → ST → Option ρ2} {N : Nat} {Inv : Int64 → ST → Prop} (hN : N ≤ 100) (step : ∀ k h S, k < N → Inv h S → ∃ h' S', Inv h' S' ∧ (∀ ag, b1 ag h (nI k) = ag h' (nI (k + 1))) ∧ (∀ ag, b2 ag (nI k) S = ag (nI (k + 1)) S')) {E1 : Int64 → Option ρ1} {E2 : ST → Option ρ2} (o1 : ∀ ag h, b1 ag h (nI N) = E1 h) (o2 : ∀ ag h S, Inv h S → b2 ag (nI N) S = E2 S) {h : Int64} {S : ST} (hI : Inv h S) : ∃ h' S', Inv h' S' ∧ lq2 b1 FU h (0 : Int32) = E1 h' ∧ lq2 b2 FU (0 : Int32) S = E2 S' := by
  obtain ⟨h1, S1, i1, e1, e2⟩ := lock step hI N (Nat.le_refl N)
  obtain ⟨F, hF⟩ : ∃ F, FU = (F + 1) + N := ⟨FU - 1 - N, by have := FU_v; omega⟩
  refine ⟨h1, S1, i1, ?_, ?_⟩
  · have : lq2 b1 ((F + 1) + N) h (nI 0) = E1 h1 := by rw [e1, lq2_s, o1]
    rw [← hF] at this
    exact this
  · have : lq2 b2 ((F + 1) + N) (nI 0) S = E2 S1 := by rw [e2, lq2_s, o2 _ h1 S1 i1]
    rw [← hF] at this
    exact this
section DIG
variable {t : Nat} {SD SM : ST} {pn n : Nat} {kd : Nat → Nat} {tg : Nat → Int32} {rm : Nat} {lt c : Nat → Nat} {am : Nat}
theorem g_lots (hA : RA n kd tg rm lt c SD SM) (K1 : Int64 → Option Int64) (K2 : ST → Option (Int64 × ST)) {h : Int64} {S : ST} (hI : DI SM h S) : ∃ h' S', DI SM h' S' ∧ lq2 (m_X6_digest_L6 FU SD K1) FU h (0 : Int32) = K1 h' ∧ lq2 (m_X7_digest_L9 FU K2) FU (0 : Int32) S = K2 S' := by
  refine lock_end (N := 6) (by omega) ?_ ?_ ?_ hI
  · intro l h S hl hI
    have hAS := hA.sc hI.1
    obtain ⟨hW, hD, hM, hL, hN⟩ := hAS
    have u0 : m_X6_under FU (nI l) (0 : Int32) SD = some (nI (lt l)) := by
      unfold m_X6_under
      rcases isL_cases FU (nI l) with ⟨h1, -⟩ | ⟨l', hl', e, h1, -⟩
      · exfalso
        unfold m_X6_isLetter at h1
        rcases wi_cases FU (nI l) 0 5 with ⟨q, z⟩ | ⟨q, -, -⟩
        · exact z ⟨nI_le (a := 0) (by omega) (by omega), nI_le (b := 5) (by omega) (by decide)⟩
        · rw [q] at h1
          exact absurd h1 (by decide)
      · rw [h1, bd_some, if_neg one0, show m_X6_within FU (0 : Int32) 0 1 = some 1 from rfl, bd_some, if_neg one0, if_pos rfl, d_tenthsOf hD hl, bd_some]
    have u1 : m_X6_under FU (nI l) (1 : Int32) SD = some (nI (full c l)) := by
      unfold m_X6_under
      rcases isL_cases FU (nI l) with ⟨h1, -⟩ | ⟨l', hl', e, h1, -⟩
      · exfalso
        unfold m_X6_isLetter at h1
        rcases wi_cases FU (nI l) 0 5 with ⟨q, z⟩ | ⟨q, -, -⟩
        · exact z ⟨nI_le (a := 0) (by omega) (by omega), nI_le (b := 5) (by omega) (by decide)⟩
        · rw [q] at h1
          exact absurd h1 (by decide)
      · rw [h1, bd_some, if_neg one0, show m_X6_within FU (1 : Int32) 0 1 = some 1 from rfl, bd_some, if_neg one0, if_neg one0, hL, s_fullness FU hW.2.1.lt hl, bd_some]
    obtain ⟨s1, d1⟩ := hI.say (nI (lt l)).toInt64
    have hA1 := hA.sc d1.1
    obtain ⟨s2, d2⟩ := d1.say (nI (full c l)).toInt64
    refine ⟨_, _, d2, fun ag => ?_, fun ag => ?_⟩
    · unfold m_X6_digest_L6
      rw [if_neg (show ¬ (6 : Int32) ≤ nI l from nI_ge (b := 6) hl (by decide)), u0, bd_some, mixed_e, bd_some, u1, bd_some, mixed_e, bd_some, nm_eqv, show nI l + (1 : Int32) = nI (l + 1) from nI_add l 1]
    · unfold m_X7_digest_L9
      rw [if_neg (show ¬ (6 : Int32) ≤ nI l from nI_ge (b := 6) hl (by decide)), inB_nI hl (by decide), gd_true, rd_nI (show l < 2 ^ 31 by omega), hM.2.2.2.2 l hl, s1, bd_some, r_fullness_4 hA1.2.2.1 hW.1 hW.2.1 hA1.2.2.2.2 hl FU_100, bd_some, s2, bd_some, nm_eqv, show nI l + (1 : Int32) = nI (l + 1) from nI_add l 1]
  · intro ag h
    unfold m_X6_digest_L6
    rw [if_pos (show (6 : Int32) ≤ nI 6 by decide)]
  · intro ag h S _
    unfold m_X7_digest_L9
    rw [if_pos (show (6 : Int32) ≤ nI 6 by decide)]
theorem has_yes (hn : n ≤ 5) (hD : stI SD 6 = nI n) (hM : stI SM 4 = nI n) {f : Nat} (hf : f < n) : m_X0_has FU (nI f) SD = some 1 ∧ m_X7_isFile FU (nI f) SM = some 1 := by
  rcases has_cases FU hn hD hM (nI f) with ⟨-, -, h⟩ | ⟨g, -, -, h1, h2⟩
  · exact absurd rfl (h f hf)
  · exact ⟨h1, h2⟩
theorem has_no (hn : n ≤ 5) (hD : stI SD 6 = nI n) (hM : stI SM 4 = nI n) {f : Nat} (hf : n ≤ f) (hf5 : f < 10) : m_X0_has FU (nI f) SD = some 0 := by
  rcases has_cases FU hn hD hM (nI f) with ⟨h, -, -⟩ | ⟨g, hg, e, -, -⟩
  · exact h
  · have := nI_inj (by omega) (by omega) e
    omega
theorem g_file (hR : Rel t SD SM) (hA : RA n kd tg rm lt c SD SM) {f : Nat} (hf : f < n) {h : Int64} {S : ST} (hI : DI SM h S) : ∃ h' S', DI SM h' S' ∧ m_X6_mixedWithFile FU h (nI f) SD = some h' ∧ m_X7_sayFile FU (nI f) S = some S' := by
  have hn := hA.1.1.1
  unfold m_X6_mixedWithFile m_X7_sayFile
  simp only [jn1]
  obtain ⟨h1, S1, d1, e1, e2⟩ := lock_end (N := 6) (Inv := DI SM) (b1 := m_X6_mixedWithFile_L6 FU (nI f) SD (fun x4_1 => bd (m_X1_waysToLive FU 8 ((stL SD 0)) (nI f) (2 : Int32) SD) (fun v_4 => bd (m_X6_inLowestTerms FU v_4 (2 : Int32) (0 : Int32)) (fun v_6 => bd (m_X6_mixed FU x4_1 ((v_6).toInt64)) (fun v_8 => bd (m_X6_inLowestTerms FU v_4 (2 : Int32) (1 : Int32)) (fun v_10 => bd (m_X6_mixed FU v_8 ((v_10).toInt64)) (fun v_12 => bd (m_X1_bestCopy FU (nI f) (2 : Int32) SD) (fun v_14 => bd (m_X6_mixed FU v_12 ((v_14).toInt64)) (fun v_16 => some v_16)))))))))
    (b2 := m_X7_sayFile_L2 FU (nI f) (fun S_1 => bd2 (m_X7_oddsOf FU (nI f) (2 : Int32) (0 : Int32) S_1) (fun v_4 S_5 => bd (m_X7_say FU ((v_4).toInt64) S_5) (fun S_7 => bd2 (m_X7_oddsOf FU (nI f) (2 : Int32) (1 : Int32) S_7) (fun v_9 S_10 => bd (m_X7_say FU ((v_9).toInt64) S_10) (fun S_12 => bd2 (m_X7_whereOf FU (nI f) (2 : Int32) S_12) (fun v_14 S_15 => bd (m_X7_say FU ((v_14).toInt64) S_15) (fun S_17 => some S_17))))))))
    (E1 := fun x4_1 => bd (m_X1_waysToLive FU 8 ((stL SD 0)) (nI f) (2 : Int32) SD) (fun v_4 => bd (m_X6_inLowestTerms FU v_4 (2 : Int32) (0 : Int32)) (fun v_6 => bd (m_X6_mixed FU x4_1 ((v_6).toInt64)) (fun v_8 => bd (m_X6_inLowestTerms FU v_4 (2 : Int32) (1 : Int32)) (fun v_10 => bd (m_X6_mixed FU v_8 ((v_10).toInt64)) (fun v_12 => bd (m_X1_bestCopy FU (nI f) (2 : Int32) SD) (fun v_14 => bd (m_X6_mixed FU v_12 ((v_14).toInt64)) (fun v_16 => some v_16))))))))
    (E2 := fun S_1 => bd2 (m_X7_oddsOf FU (nI f) (2 : Int32) (0 : Int32) S_1) (fun v_4 S_5 => bd (m_X7_say FU ((v_4).toInt64) S_5) (fun S_7 => bd2 (m_X7_oddsOf FU (nI f) (2 : Int32) (1 : Int32) S_7) (fun v_9 S_10 => bd (m_X7_say FU ((v_9).toInt64) S_10) (fun S_12 => bd2 (m_X7_whereOf FU (nI f) (2 : Int32) S_12) (fun v_14 S_15 => bd (m_X7_say FU ((v_14).toInt64) S_15) (fun S_17 => some S_17)))))))
    (by omega) (by
      intro k h S hk hI
      have hRS := hR.sc hI.1
      have hAS := hA.sc hI.1
      obtain ⟨r, a1, a2, -⟩ := op_about hRS (nI f) (nI k)
      have hy := has_yes (SD := SD) (SM := S) hn hAS.2.1.1 hAS.2.2.1.1 hf
      have a3 : m_X7_tell FU (nI f) (nI k) S = some r := by
        unfold m_X7_about at a2
        rw [hy.2, bd_some, if_neg one0] at a2
        cases e : m_X7_tell FU (nI f) (nI k) S with
        | none => rw [e] at a2; exact absurd a2 (by intro z; cases z)
        | some v => rw [e, bd_some] at a2; exact a2
      obtain ⟨s1, d1⟩ := hI.say r.toInt64
      refine ⟨_, _, d1, fun ag => ?_, fun ag => ?_⟩
      · unfold m_X6_mixedWithFile_L6
        rw [if_neg (show ¬ (6 : Int32) ≤ nI k from nI_ge (b := 6) hk (by decide)), a1, bd_some, mixed_e, bd_some, nm_eqv, show nI k + (1 : Int32) = nI (k + 1) from nI_add k 1]
      · unfold m_X7_sayFile_L2
        rw [if_neg (show ¬ (6 : Int32) ≤ nI k from nI_ge (b := 6) hk (by decide)), a3, bd_some, s1, bd_some, nm_eqv, show nI k + (1 : Int32) = nI (k + 1) from nI_add k 1]) (by
      intro ag h
      unfold m_X6_mixedWithFile_L6
      rw [if_pos (show (6 : Int32) ≤ nI 6 by decide)]) (by
      intro ag h S _
      unfold m_X7_sayFile_L2
      rw [if_pos (show (6 : Int32) ≤ nI 6 by decide)]) hI
  rw [e1, e2]
  obtain ⟨r0, S2, o1, o2, x2⟩ := odds_both (hA.sc d1.1) hf (show 2 ≤ 4 by decide) (show 0 ≤ 1 by decide)
  have d2 := d1.ex x2 (by decide)
  obtain ⟨s3, d3⟩ := d2.say r0.toInt64
  obtain ⟨r1, S4, p1, p2, x4⟩ := odds_both (hA.sc d3.1) hf (show 2 ≤ 4 by decide) (show 1 ≤ 1 by decide)
  have d4 := d3.ex x4 (by decide)
  obtain ⟨s5, d5⟩ := d4.say r1.toInt64
  obtain ⟨r2, S6, w1, w2, x6⟩ := where_both (hA.sc d5.1) hf (show 2 ≤ 4 by decide)
  have d6 := d5.ex x6 (by decide)
  obtain ⟨s7, d7⟩ := d6.say r2.toInt64
  refine ⟨_, _, d7, ?_, ?_⟩
  · have o1' : bd (m_X1_waysToLive FU 8 (stL SD 0) (nI f) (2 : Int32) SD) (fun v_11 => m_X6_inLowestTerms FU v_11 (2 : Int32) (0 : Int32)) = some r0 := o1
    have p1' : bd (m_X1_waysToLive FU 8 (stL SD 0) (nI f) (2 : Int32) SD) (fun v_11 => m_X6_inLowestTerms FU v_11 (2 : Int32) (1 : Int32)) = some r1 := p1
    have w1' : m_X1_bestCopy FU (nI f) (2 : Int32) SD = some r2 := w1
    cases e : m_X1_waysToLive FU 8 (stL SD 0) (nI f) (2 : Int32) SD with
    | none => rw [e] at o1'; cases o1'
    | some w =>
      rw [e, bd_some] at o1' p1'
      rw [bd_some, o1', bd_some, mixed_e, bd_some, p1', bd_some, mixed_e, bd_some, w1', bd_some, mixed_e, bd_some]
  · have o2' : m_X7_oddsOf FU (nI f) (2 : Int32) (0 : Int32) S1 = some (r0, S2) := o2
    have p2' : m_X7_oddsOf FU (nI f) (2 : Int32) (1 : Int32) _ = some (r1, S4) := p2
    have w2' : m_X7_whereOf FU (nI f) (2 : Int32) _ = some (r2, S6) := w2
    rw [o2', bd2_some, s3, bd_some, p2', bd2_some, s5, bd_some, w2', bd2_some, s7, bd_some]
theorem g_files (hR : Rel t SD SM) (hA : RA n kd tg rm lt c SD SM) (K1 : Int64 → Option Int64) (K2 : ST → Option (Int64 × ST)) {h : Int64} {S : ST} (hI : DI SM h S) : ∃ h' S', DI SM h' S' ∧ lq2 (m_X6_digest_L44 FU SD K1) FU h (0 : Int32) = K1 h' ∧ lq2 (m_X7_digest_L48 FU K2) FU (0 : Int32) S = K2 S' := by
  have hn := hA.1.1.1
  obtain ⟨h1, S1, i1, e1, e2⟩ := lock (N := n) (Inv := DI SM) (b1 := m_X6_digest_L44 FU SD K1) (b2 := m_X7_digest_L48 FU K2) (by
    intro f h S hf hI
    have hAS := hA.sc hI.1
    have hy := has_yes (SD := SD) (SM := S) hn hAS.2.1.1 hAS.2.2.1.1 hf
    obtain ⟨h1, S1, d1, m1, m2⟩ := g_file hR hA hf hI
    refine ⟨h1, S1, d1, fun ag => ?_, fun ag => ?_⟩
    · unfold m_X6_digest_L44
      rw [if_neg (show ¬ (5 : Int32) ≤ nI f from nI_ge (b := 5) (by omega) (by decide)), hy.1, bd_some]
      simp only [jn1]
      rw [if_neg one0, m1, bd_some, nm_eqv, show nI f + (1 : Int32) = nI (f + 1) from nI_add f 1]
    · unfold m_X7_digest_L48
      rw [hAS.2.2.1.1, if_neg (nI_ge hf (by omega)), m2, bd_some, nm_eqv, show nI f + (1 : Int32) = nI (f + 1) from nI_add f 1]) hI n (Nat.le_refl n)
  obtain ⟨F, hF⟩ : ∃ F, FU = (F + 1) + n := ⟨FU - 1 - n, by have := FU_v; omega⟩
  refine ⟨h1, S1, i1, ?_, ?_⟩
  · have : lq2 (m_X6_digest_L44 FU SD K1) ((F + 1) + n) h (nI 0) = K1 h1 := by
      rw [e1]
      refine lq2_run (fun o => o = K1 h1) 5 (fun i a b => a = h1 ∧ b = nI i ∧ n ≤ i) ?_ ?_ (F + 1) n _ _ hn (by have := FU_v; omega) ⟨rfl, rfl, Nat.le_refl n⟩
      · rintro i a b again hi ⟨rfl, rfl, hni⟩
        right
        unfold m_X6_digest_L44
        rw [if_neg (show ¬ (5 : Int32) ≤ nI i from nI_ge (b := 5) (by omega) (by decide)), has_no hn hA.2.1.1 hA.2.2.1.1 hni (by omega), bd_some]
        simp only [jn1, if_true]
        rw [nm_eqv]
        exact ⟨_, _, ⟨rfl, nI_add i 1, by omega⟩, rfl⟩
      · rintro a b again ⟨rfl, rfl, hni⟩
        unfold m_X6_digest_L44
        rw [if_pos (show (5 : Int32) ≤ nI 5 by decide)]
    rw [← hF] at this
    exact this
  · have : lq2 (m_X7_digest_L48 FU K2) ((F + 1) + n) (nI 0) S = K2 S1 := by
      rw [e2, lq2_s]
      unfold m_X7_digest_L48
      rw [(hA.sc i1.1).2.2.1.1, if_pos (nI_le (Nat.le_refl n) (by omega))]
    rw [← hF] at this
    exact this
theorem g_page (hP : RP pn SD SM) (K1 : Int64 → Option Int64) (K2 : ST → Option (Int64 × ST)) {h : Int64} {S : ST} (hI : DI SM h S) : ∃ h' S', DI SM h' S' ∧ lq2 (m_X6_digest_L105 FU SD K1) FU h (0 : Int32) = K1 h' ∧ lq2 (m_X7_digest_L94 FU K2) FU (0 : Int32) S = K2 S' := by
  have hpn := hP.1
  refine lock_end (N := pn) (by omega) ?_ ?_ ?_ hI
  · intro i h S hi hI
    have h0 : stI S 0 = nI pn := (hI.1.1 0 (by decide)).trans hP.2.2.1
    have h1 : stR S 0 i = stR SD 0 i := by rw [hI.1.2 0 (by decide)]; exact ((hP.2.2.2 i hi).1).symm
    obtain ⟨s1, d1⟩ := hI.say (stR SD 0 i).toInt64
    refine ⟨_, _, d1, fun ag => ?_, fun ag => ?_⟩
    · unfold m_X6_digest_L105
      rw [hP.2.1, if_neg (nI_ge hi (by omega)), d_codeAt FU (show i < 10 by omega), bd_some, mixed_e, bd_some, nm_eqv, show nI i + (1 : Int32) = nI (i + 1) from nI_add i 1]
    · unfold m_X7_digest_L94
      rw [h0, if_neg (nI_ge hi (by omega)), inB_nI (show i < 10 by omega) (by decide), gd_true, rd_nI (show i < 2 ^ 31 by omega), h1, s1, bd_some, nm_eqv, show nI i + (1 : Int32) = nI (i + 1) from nI_add i 1]
  · intro ag h
    unfold m_X6_digest_L105
    rw [hP.2.1, if_pos (nI_le (Nat.le_refl pn) (by omega))]
  · intro ag h S hI
    have h0 : stI S 0 = nI pn := (hI.1.1 0 (by decide)).trans hP.2.2.1
    unfold m_X7_digest_L94
    rw [h0, if_pos (nI_le (Nat.le_refl pn) (by omega))]
theorem g_counts (hR : Rel t SD SM) {h : Int64} {S : ST} (hI : DI SM h S) : ∃ h' S', DI SM h' S' ∧ lq2 (m_X6_digest_L138 FU SD) FU h (0 : Int32) = some h' ∧ lq2 (m_X7_digest_L121 FU) FU (0 : Int32) S = some (h', S') := by
  obtain ⟨h1, S1, d1, e1, e2⟩ := lock_end (N := 10) (Inv := DI SM) (b1 := m_X6_digest_L138 FU SD) (b2 := m_X7_digest_L121 FU) (E1 := fun h => some h) (E2 := fun S => some (stL S 0, S)) (by omega) (by
    intro k h S hk hI
    obtain ⟨r, a1, a2⟩ := d_count (hR.sc hI.1) (nI k)
    obtain ⟨s1, d1⟩ := hI.say r.toInt64
    refine ⟨_, _, d1, fun ag => ?_, fun ag => ?_⟩
    · unfold m_X6_digest_L138
      rw [if_neg (show ¬ (10 : Int32) ≤ nI k from nI_ge (b := 10) hk (by decide)), a1, bd_some, mixed_e, bd_some, nm_eqv, show nI k + (1 : Int32) = nI (k + 1) from nI_add k 1]
    · unfold m_X7_digest_L121
      rw [if_neg (show ¬ (10 : Int32) ≤ nI k from nI_ge (b := 10) hk (by decide)), a2, bd_some, s1, bd_some, nm_eqv, show nI k + (1 : Int32) = nI (k + 1) from nI_add k 1]) (by
    intro ag h
    unfold m_X6_digest_L138
    rw [if_pos (show (10 : Int32) ≤ nI 10 by decide)]) (by
    intro ag h S _
    unfold m_X7_digest_L121
    rw [if_pos (show (10 : Int32) ≤ nI 10 by decide)]) hI
  refine ⟨h1, S1, d1, e1, ?_⟩
  rw [e2, d1.2]
end DIG
noncomputable def k1t (SD : ST) (h : Int64) : Option Int64 := lq2 (m_X6_digest_L105 FU SD (fun x => lq2 (m_X6_digest_L138 FU SD) FU x (0 : Int32))) FU h (0 : Int32)
noncomputable def k2t (S : ST) : Option (Int64 × ST) := lq2 (m_X7_digest_L94 FU (fun S_14 => lq2 (m_X7_digest_L121 FU) FU (0 : Int32) S_14)) FU (0 : Int32) S
noncomputable def k1b (SD : ST) (h : Int64) : Option Int64 := bd (m_X6_nowhere FU SD) (fun v_6 => bd (m_X6_mixed FU h ((v_6).toInt64)) (fun v_8 => bd (m_X3_stands FU SD) (fun v_10 => (if v_10 = (0 : Int32) then k1t SD v_8 else bd (m_X6_fits FU SD) (fun v_35 => bd (m_X6_mixed FU v_8 ((v_35).toInt64)) (fun v_37 => k1t SD v_37))))))
noncomputable def k2b (S : ST) : Option (Int64 × ST) := bd (m_X7_nowhereOf FU S) (fun v_7 => bd (m_X7_say FU ((v_7).toInt64) S) (fun S_9 => bd (m_X7_lacks FU S_9) (fun v_11 => (if v_11 = (0 : Int32) then bd2 (m_X7_layFits FU S_9) (fun v_34 S_35 => bd (m_X7_say FU ((v_34).toInt64) S_35) (fun S_37 => k2t S_37)) else k2t S_9))))
theorem op_digest {t : Nat} {SD SM : ST} (hR : Rel t SD SM) : ∃ (r : Int64) (SM1 : ST), m_X6_digest FU SD = some r ∧ m_X7_digest FU SM = some (r, SM1) ∧ Rel (t + 1) SD SM1 := by
  have hup := hR.up
  have hR0 := hR
  obtain ⟨pn, n, kd, tg, rm, lt, c, am, lr, su, mv, hP, hA, hC, hS, hI⟩ := hR
  have E1 : m_X6_digest FU SD = lq2 (m_X6_digest_L6 FU SD (fun x => lq2 (m_X6_digest_L44 FU SD (k1b SD)) FU x (0 : Int32))) FU (769 : Int64) (0 : Int32) := rfl
  have E2 : m_X7_digest FU SM = lq2 (m_X7_digest_L9 FU (fun S_2 => lq2 (m_X7_digest_L48 FU k2b) FU (0 : Int32) S_2)) FU (0 : Int32) (puL SM 0 (769 : Int64)) := rfl
  rw [E1, E2]
  clear E1 E2
  have d0 : DI SM 769 (puL SM 0 769) := ⟨⟨fun _ _ => rfl, fun _ _ => rfl⟩, rfl⟩
  obtain ⟨h1, S1, d1, a1, b1⟩ := g_lots hA (fun x => lq2 (m_X6_digest_L44 FU SD (k1b SD)) FU x (0 : Int32)) (fun S_2 => lq2 (m_X7_digest_L48 FU k2b) FU (0 : Int32) S_2) d0
  rw [a1, b1]
  clear a1 b1
  obtain ⟨h2, S2, d2, a2, b2⟩ := g_files hR0 hA (k1b SD) k2b d1
  rw [a2, b2]
  clear a2 b2
  have hA2 := hA.sc d2.1
  obtain ⟨hW, hD, hM, hL, hN⟩ := hA2
  obtain ⟨s3, d3⟩ := d2.say (nI (nwM tg c n)).toInt64
  unfold k1b k2b m_X6_nowhere
  rw [d_nowhere hD hW.1 hW.2.1 hL, bd_some, bd_some, mixed_e, bd_some, r_nowhere hM hW.1 hW.2.1 hN, bd_some, s3, bd_some]
  have hA3 := hA.sc d3.1
  have hfin : ∀ h S, DI SM h S → ∃ (r : Int64) (SM1 : ST), k1t SD h = some r ∧ k2t S = some (r, SM1) ∧ Rel (t + 1) SD SM1 := by
    intro h S hd
    obtain ⟨h4, S4, d4, a4, b4⟩ := g_page hP (fun x1_13 => lq2 (m_X6_digest_L138 FU SD) FU x1_13 (0 : Int32)) (fun S_14 => lq2 (m_X7_digest_L121 FU) FU (0 : Int32) S_14) hd
    obtain ⟨h5, S5, d5, a5, b5⟩ := g_counts hR0 d4
    exact ⟨h5, S5, a4.trans a5, b4.trans b5, hup.sc d5.1⟩
  rcases sl_cases FU hA3.1.1.2.1 hA3.2.1.2.1 hA3.2.2.1.2.1 with ⟨h0, h7, h8⟩ | ⟨h0, h7, h8⟩
  · rw [h7, h8, bd_some, bd_some, if_pos rfl, if_neg one0]
    exact hfin _ _ d3
  · rw [h7, h8, bd_some, bd_some, if_neg one0, if_pos rfl]
    have hS3 : RS am SD _ := hS.fr rfl rfl (d3.1.1 7 (by decide)) (d3.1.2 9 (by decide))
    obtain ⟨r, S4, e1, e2, x4⟩ := fits_both hA3 hS3
    have d4 := d3.ex x4 (by decide)
    obtain ⟨s5, d5⟩ := d4.say r.toInt64
    unfold m_X6_fits
    rw [h7, bd_some, if_neg one0, e1, bd_some, bd_some, mixed_e, bd_some, e2, bd2_some, s5, bd_some]
    exact hfin _ _ d5
