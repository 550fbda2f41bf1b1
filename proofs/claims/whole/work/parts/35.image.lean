/-! images and counts -/
theorem r_copyTo_3_12 {SM : ST} : ∃ SM', m_X7_copyTo_3_12 FU SM = some SM' ∧ Ex [11] SM SM' ∧ ∀ f, f < 10 → stR SM' 11 f = stR SM 2 f := by
  unfold m_X7_copyTo_3_12
  refine lq2_run (fun o => ∃ SM', o = some SM' ∧ Ex [11] SM SM' ∧ ∀ f, f < 10 → stR SM' 11 f = stR SM 2 f) 10 (fun i x S => x = nI i ∧ Ex [11] SM S ∧ ∀ f, f < i → stR S 11 f = stR SM 2 f) ?_ ?_ FU 0 _ _ (by omega) (by have := FU_v; omega) ⟨rfl, Ex.rf, fun f h => by omega⟩
  · rintro i x S again hi ⟨rfl, hx, h5⟩
    right
    have hlt : i < 2 ^ 31 := by omega
    unfold m_X7_copyTo_3_12_L2
    rw [L10, if_neg (nI_ge hi (by decide)), inB_nI hi (by decide)]
    simp only [gd_true, nm]
    refine ⟨_, _, ⟨nI_add i 1, hx.tr (wr_ex hlt (by decide)), fun f hf => ?_⟩, rfl⟩
    rw [(wr_at hlt).1 f, rd_nI hlt]
    by_cases e : f = i
    · rw [if_pos e, e, hx.2.2 2 (by decide)]
    · rw [if_neg e, h5 f (by omega)]
  · rintro x S again ⟨rfl, hx, h5⟩
    unfold m_X7_copyTo_3_12_L2
    rw [L10, if_pos (nI_le (Nat.le_refl 10) (by decide))]
    exact ⟨S, rfl, hx, h5⟩
theorem r_copyTo_4_13 {SM : ST} : ∃ SM', m_X7_copyTo_4_13 FU SM = some SM' ∧ Ex [12] SM SM' ∧ ∀ f, f < 5 → stR SM' 12 f = stR SM 3 f := by
  unfold m_X7_copyTo_4_13
  refine lq2_run (fun o => ∃ SM', o = some SM' ∧ Ex [12] SM SM' ∧ ∀ f, f < 5 → stR SM' 12 f = stR SM 3 f) 5 (fun i x S => x = nI i ∧ Ex [12] SM S ∧ ∀ f, f < i → stR S 12 f = stR SM 3 f) ?_ ?_ FU 0 _ _ (by omega) (by have := FU_v; omega) ⟨rfl, Ex.rf, fun f h => by omega⟩
  · rintro i x S again hi ⟨rfl, hx, h5⟩
    right
    have hlt : i < 2 ^ 31 := by omega
    unfold m_X7_copyTo_4_13_L2
    rw [L5, if_neg (nI_ge hi (by decide)), inB_nI hi (by decide)]
    simp only [gd_true, nm]
    refine ⟨_, _, ⟨nI_add i 1, hx.tr (wr_ex hlt (by decide)), fun f hf => ?_⟩, rfl⟩
    rw [(wr_at hlt).1 f, rd_nI hlt]
    by_cases e : f = i
    · rw [if_pos e, e, hx.2.2 3 (by decide)]
    · rw [if_neg e, h5 f (by omega)]
  · rintro x S again ⟨rfl, hx, h5⟩
    unfold m_X7_copyTo_4_13_L2
    rw [L5, if_pos (nI_le (Nat.le_refl 5) (by decide))]
    exact ⟨S, rfl, hx, h5⟩
theorem r_copyTo_5_14 {SM : ST} : ∃ SM', m_X7_copyTo_5_14 FU SM = some SM' ∧ Ex [13] SM SM' ∧ ∀ f, f < 5 → stR SM' 13 f = stR SM 4 f := by
  unfold m_X7_copyTo_5_14
  refine lq2_run (fun o => ∃ SM', o = some SM' ∧ Ex [13] SM SM' ∧ ∀ f, f < 5 → stR SM' 13 f = stR SM 4 f) 5 (fun i x S => x = nI i ∧ Ex [13] SM S ∧ ∀ f, f < i → stR S 13 f = stR SM 4 f) ?_ ?_ FU 0 _ _ (by omega) (by have := FU_v; omega) ⟨rfl, Ex.rf, fun f h => by omega⟩
  · rintro i x S again hi ⟨rfl, hx, h5⟩
    right
    have hlt : i < 2 ^ 31 := by omega
    unfold m_X7_copyTo_5_14_L2
    rw [L5, if_neg (nI_ge hi (by decide)), inB_nI hi (by decide)]
    simp only [gd_true, nm]
    refine ⟨_, _, ⟨nI_add i 1, hx.tr (wr_ex hlt (by decide)), fun f hf => ?_⟩, rfl⟩
    rw [(wr_at hlt).1 f, rd_nI hlt]
    by_cases e : f = i
    · rw [if_pos e, e, hx.2.2 4 (by decide)]
    · rw [if_neg e, h5 f (by omega)]
  · rintro x S again ⟨rfl, hx, h5⟩
    unfold m_X7_copyTo_5_14_L2
    rw [L5, if_pos (nI_le (Nat.le_refl 5) (by decide))]
    exact ⟨S, rfl, hx, h5⟩
theorem r_copyTo_10_15 {SM : ST} : ∃ SM', m_X7_copyTo_10_15 FU SM = some SM' ∧ Ex [14] SM SM' ∧ ∀ f, f < 5 → stR SM' 14 f = stR SM 9 f := by
  unfold m_X7_copyTo_10_15
  refine lq2_run (fun o => ∃ SM', o = some SM' ∧ Ex [14] SM SM' ∧ ∀ f, f < 5 → stR SM' 14 f = stR SM 9 f) 5 (fun i x S => x = nI i ∧ Ex [14] SM S ∧ ∀ f, f < i → stR S 14 f = stR SM 9 f) ?_ ?_ FU 0 _ _ (by omega) (by have := FU_v; omega) ⟨rfl, Ex.rf, fun f h => by omega⟩
  · rintro i x S again hi ⟨rfl, hx, h5⟩
    right
    have hlt : i < 2 ^ 31 := by omega
    unfold m_X7_copyTo_10_15_L2
    rw [L5, if_neg (nI_ge hi (by decide)), inB_nI hi (by decide)]
    simp only [gd_true, nm]
    refine ⟨_, _, ⟨nI_add i 1, hx.tr (wr_ex hlt (by decide)), fun f hf => ?_⟩, rfl⟩
    rw [(wr_at hlt).1 f, rd_nI hlt]
    by_cases e : f = i
    · rw [if_pos e, e, hx.2.2 9 (by decide)]
    · rw [if_neg e, h5 f (by omega)]
  · rintro x S again ⟨rfl, hx, h5⟩
    unfold m_X7_copyTo_10_15_L2
    rw [L5, if_pos (nI_le (Nat.le_refl 5) (by decide))]
    exact ⟨S, rfl, hx, h5⟩
theorem r_copyTo_12_3 {SM : ST} : ∃ SM', m_X7_copyTo_12_3 FU SM = some SM' ∧ Ex [2] SM SM' ∧ ∀ f, f < 10 → stR SM' 2 f = stR SM 11 f := by
  unfold m_X7_copyTo_12_3
  refine lq2_run (fun o => ∃ SM', o = some SM' ∧ Ex [2] SM SM' ∧ ∀ f, f < 10 → stR SM' 2 f = stR SM 11 f) 10 (fun i x S => x = nI i ∧ Ex [2] SM S ∧ ∀ f, f < i → stR S 2 f = stR SM 11 f) ?_ ?_ FU 0 _ _ (by omega) (by have := FU_v; omega) ⟨rfl, Ex.rf, fun f h => by omega⟩
  · rintro i x S again hi ⟨rfl, hx, h5⟩
    right
    have hlt : i < 2 ^ 31 := by omega
    unfold m_X7_copyTo_12_3_L2
    rw [L10, if_neg (nI_ge hi (by decide)), inB_nI hi (by decide)]
    simp only [gd_true, nm]
    refine ⟨_, _, ⟨nI_add i 1, hx.tr (wr_ex hlt (by decide)), fun f hf => ?_⟩, rfl⟩
    rw [(wr_at hlt).1 f, rd_nI hlt]
    by_cases e : f = i
    · rw [if_pos e, e, hx.2.2 11 (by decide)]
    · rw [if_neg e, h5 f (by omega)]
  · rintro x S again ⟨rfl, hx, h5⟩
    unfold m_X7_copyTo_12_3_L2
    rw [L10, if_pos (nI_le (Nat.le_refl 10) (by decide))]
    exact ⟨S, rfl, hx, h5⟩
theorem r_copyTo_13_4 {SM : ST} : ∃ SM', m_X7_copyTo_13_4 FU SM = some SM' ∧ Ex [3] SM SM' ∧ ∀ f, f < 5 → stR SM' 3 f = stR SM 12 f := by
  unfold m_X7_copyTo_13_4
  refine lq2_run (fun o => ∃ SM', o = some SM' ∧ Ex [3] SM SM' ∧ ∀ f, f < 5 → stR SM' 3 f = stR SM 12 f) 5 (fun i x S => x = nI i ∧ Ex [3] SM S ∧ ∀ f, f < i → stR S 3 f = stR SM 12 f) ?_ ?_ FU 0 _ _ (by omega) (by have := FU_v; omega) ⟨rfl, Ex.rf, fun f h => by omega⟩
  · rintro i x S again hi ⟨rfl, hx, h5⟩
    right
    have hlt : i < 2 ^ 31 := by omega
    unfold m_X7_copyTo_13_4_L2
    rw [L5, if_neg (nI_ge hi (by decide)), inB_nI hi (by decide)]
    simp only [gd_true, nm]
    refine ⟨_, _, ⟨nI_add i 1, hx.tr (wr_ex hlt (by decide)), fun f hf => ?_⟩, rfl⟩
    rw [(wr_at hlt).1 f, rd_nI hlt]
    by_cases e : f = i
    · rw [if_pos e, e, hx.2.2 12 (by decide)]
    · rw [if_neg e, h5 f (by omega)]
  · rintro x S again ⟨rfl, hx, h5⟩
    unfold m_X7_copyTo_13_4_L2
    rw [L5, if_pos (nI_le (Nat.le_refl 5) (by decide))]
    exact ⟨S, rfl, hx, h5⟩
theorem r_copyTo_14_5 {SM : ST} : ∃ SM', m_X7_copyTo_14_5 FU SM = some SM' ∧ Ex [4] SM SM' ∧ ∀ f, f < 5 → stR SM' 4 f = stR SM 13 f := by
  unfold m_X7_copyTo_14_5
  refine lq2_run (fun o => ∃ SM', o = some SM' ∧ Ex [4] SM SM' ∧ ∀ f, f < 5 → stR SM' 4 f = stR SM 13 f) 5 (fun i x S => x = nI i ∧ Ex [4] SM S ∧ ∀ f, f < i → stR S 4 f = stR SM 13 f) ?_ ?_ FU 0 _ _ (by omega) (by have := FU_v; omega) ⟨rfl, Ex.rf, fun f h => by omega⟩
  · rintro i x S again hi ⟨rfl, hx, h5⟩
    right
    have hlt : i < 2 ^ 31 := by omega
    unfold m_X7_copyTo_14_5_L2
    rw [L5, if_neg (nI_ge hi (by decide)), inB_nI hi (by decide)]
    simp only [gd_true, nm]
    refine ⟨_, _, ⟨nI_add i 1, hx.tr (wr_ex hlt (by decide)), fun f hf => ?_⟩, rfl⟩
    rw [(wr_at hlt).1 f, rd_nI hlt]
    by_cases e : f = i
    · rw [if_pos e, e, hx.2.2 13 (by decide)]
    · rw [if_neg e, h5 f (by omega)]
  · rintro x S again ⟨rfl, hx, h5⟩
    unfold m_X7_copyTo_14_5_L2
    rw [L5, if_pos (nI_le (Nat.le_refl 5) (by decide))]
    exact ⟨S, rfl, hx, h5⟩
theorem r_copyTo_15_10 {SM : ST} : ∃ SM', m_X7_copyTo_15_10 FU SM = some SM' ∧ Ex [9] SM SM' ∧ ∀ f, f < 5 → stR SM' 9 f = stR SM 14 f := by
  unfold m_X7_copyTo_15_10
  refine lq2_run (fun o => ∃ SM', o = some SM' ∧ Ex [9] SM SM' ∧ ∀ f, f < 5 → stR SM' 9 f = stR SM 14 f) 5 (fun i x S => x = nI i ∧ Ex [9] SM S ∧ ∀ f, f < i → stR S 9 f = stR SM 14 f) ?_ ?_ FU 0 _ _ (by omega) (by have := FU_v; omega) ⟨rfl, Ex.rf, fun f h => by omega⟩
  · rintro i x S again hi ⟨rfl, hx, h5⟩
    right
    have hlt : i < 2 ^ 31 := by omega
    unfold m_X7_copyTo_15_10_L2
    rw [L5, if_neg (nI_ge hi (by decide)), inB_nI hi (by decide)]
    simp only [gd_true, nm]
    refine ⟨_, _, ⟨nI_add i 1, hx.tr (wr_ex hlt (by decide)), fun f hf => ?_⟩, rfl⟩
    rw [(wr_at hlt).1 f, rd_nI hlt]
    by_cases e : f = i
    · rw [if_pos e, e, hx.2.2 14 (by decide)]
    · rw [if_neg e, h5 f (by omega)]
  · rintro x S again ⟨rfl, hx, h5⟩
    unfold m_X7_copyTo_15_10_L2
    rw [L5, if_pos (nI_le (Nat.le_refl 5) (by decide))]
    exact ⟨S, rfl, hx, h5⟩
theorem cp_at {S : ST} {i j f : Nat} (hf : f < 5) : stR (cpA S i j) j f = stR S i f := by
  unfold cpA
  rw [stR_puR, if_pos rfl, pk_cpy_in (Nat.zero_le f) (by omega)]
  simp
theorem cp_ne {S : ST} {i j k : Nat} (h : k ≠ j) : stR (cpA S i j) k = stR S k := by
  unfold cpA
  rw [stR_puR, if_neg h]
theorem pairE {a b : Int32} {S : ST} (h : a = b) : some (a, S) = some (b, S) := by rw [h]
theorem op_image {t : Nat} {SD SM : ST} (hR : Rel t SD SM) : ∃ (r : Int32) (SD1 : ST) (SM1 : ST), m_X6_image FU SD = some (r, SD1) ∧ m_X7_image FU SM = some (r, SM1) ∧ Rel (t + 1) SD1 SM1 := by
  have hup := hR.up
  obtain ⟨pn, n, kd, tg, rm, lt, c, am, lr, su, mv, hP, ⟨hW, hD, hM, hL, hN⟩, hC, hS, hI⟩ := hR
  have hn := hW.1.1
  unfold m_X6_image m_X7_image
  rcases sl_cases FU hW.1.2.1 hD.2.1 hM.2.1 with ⟨h0, h1, h2⟩ | ⟨h0, h1, h2⟩
  · rw [h1, h2, bd_some, bd_some, if_pos rfl, if_neg one0]; exact ⟨_, _, _, rfl, rfl, hup⟩
  rw [h1, h2, bd_some, bd_some, if_neg one0, if_pos rfl]
  obtain ⟨S1, e1, x1, c1⟩ := r_copyTo_3_12 (SM := SM)
  rw [e1, bd_some]
  obtain ⟨S2, e2, x2, c2⟩ := r_copyTo_4_13 (SM := S1)
  rw [e2, bd_some]
  obtain ⟨S3, e3, x3, c3⟩ := r_copyTo_5_14 (SM := S2)
  rw [e3, bd_some]
  obtain ⟨S4, e4, x4, c4⟩ := r_copyTo_10_15 (SM := S3)
  rw [e4, bd_some]
  unfold m_X0_become_9_5
  simp only [nm, bd_some]
  have i4 : ∀ k, stI S4 k = stI SM k := fun k => by rw [x4.1, x3.1, x2.1, x1.1]
  have r4 : ∀ k, k ∉ [11, 12, 13, 14] → stR S4 k = stR SM k := fun k hk => by
    simp at hk
    rw [x4.2.2 k (by simp; omega), x3.2.2 k (by simp; omega), x2.2.2 k (by simp; omega), x1.2.2 k (by simp; omega)]
  have hy : stI SD 7 = stI S4 2 := by rw [i4]; exact hC.1
  refine ⟨stI SD 7, _, _, rfl, pairE hy.symm, ?_⟩
  refine ⟨pn, n, kd, tg, rm, lt, c, am, lr, su, mv, hP.fr rfl rfl ?_ ?_, ⟨hW, hD, ?_, hL, ?_⟩, hC.fr rfl rfl rfl rfl ?_ ?_ ?_ ?_, hS.fr rfl rfl ?_ ?_, Or.inl ⟨rfl, ?_, n, kd, tg, c, am, hW, ?_, ?_, fun f hf => ?_, fun f hf => ?_, fun f hf => ?_, fun f hf => ?_, ?_, ⟨fun f hf => ?_, fun f hf => ?_⟩, ?_, hS.1, ?_, ?_, fun i hi => ?_⟩⟩
  · exact i4 0
  · exact r4 0 (by decide)
  · refine ⟨?_, ?_, ?_, ?_, ?_⟩
    · exact (i4 4).trans hM.1
    · exact (i4 1).trans hM.2.1
    · intro f hf; show stR S4 2 (2 * f) = _; rw [r4 2 (by decide)]; exact hM.2.2.1 f hf
    · intro f hf; show stR S4 2 (2 * f + 1) = _; rw [r4 2 (by decide)]; exact hM.2.2.2.1 f hf
    · intro l hl; show stR S4 1 l = _; rw [r4 1 (by decide)]; exact hM.2.2.2.2 l hl
  · refine ⟨fun f hf => ?_, fun f hf => ?_⟩
    · show stR S4 3 f = _; rw [r4 3 (by decide)]; exact hN.1 f hf
    · show stR S4 4 f = _; rw [r4 4 (by decide)]; exact hN.2 f hf
  · exact i4 2
  · exact i4 3
  · exact i4 5
  · exact i4 6
  · exact i4 7
  · exact r4 9 (by decide)
  · exact (i4 3).trans hC.2.2.1
  · exact hD.1
  · exact (i4 4).trans hM.1
  · rw [stR_puI, stR_puI, stR_puI, stR_puL, stR_puI, cp_ne (by decide), cp_ne (by decide), cp_at (by omega)]; exact hD.2.2.1 f hf
  · rw [stR_puI, stR_puI, stR_puI, stR_puL, stR_puI, cp_ne (by decide), cp_at (by omega), cp_ne (by decide)]; exact hD.2.2.2.1 f hf
  · rw [stR_puI, stR_puI, stR_puI, stR_puI, x4.2.2 11 (by decide), x3.2.2 11 (by decide), x2.2.2 11 (by decide), c1 _ (by omega)]; exact hM.2.2.1 f hf
  · rw [stR_puI, stR_puI, stR_puI, stR_puI, x4.2.2 11 (by decide), x3.2.2 11 (by decide), x2.2.2 11 (by decide), c1 _ (by omega)]; exact hM.2.2.2.1 f hf
  · exact hL
  · rw [stR_puI, stR_puI, stR_puI, stR_puI, x4.2.2 12 (by decide), x3.2.2 12 (by decide), c2 _ (by omega), x1.2.2 3 (by decide)]; exact hN.1 f hf
  · rw [stR_puI, stR_puI, stR_puI, stR_puI, x4.2.2 13 (by decide), c3 _ (by omega), x2.2.2 4 (by decide), x1.2.2 4 (by decide)]; exact hN.2 f hf
  · show stI SD 7 = stI S4 2; exact hy
  · exact hS.2.1
  · exact (i4 7).trans hS.2.2.1
  · rw [stR_puI, stR_puI, stR_puI, stR_puL, stR_puI, cp_at (by have := hS.1; omega), cp_ne (by decide), cp_ne (by decide), stR_puI, stR_puI, stR_puI, stR_puI, c4 _ (by have := hS.1; omega), x3.2.2 9 (by decide), x2.2.2 9 (by decide), x1.2.2 9 (by decide)]; exact hS.2.2.2 i hi
theorem op_restore {t : Nat} (ht : t < 1000) {SD SM : ST} (hR : Rel t SD SM) : ∃ (r : Int32) (SD1 : ST) (SM1 : ST), m_X6_restore FU SD = some (r, SD1) ∧ m_X7_restore FU SM = some (r, SM1) ∧ Rel (t + 1) SD1 SM1 := by
  have hup := hR.up
  obtain ⟨pn, n, kd, tg, rm, lt, c, am, lr, su, mv, hP, ⟨hW, hD, hM, hL, hN⟩, hC, hS, hI⟩ := hR
  have hlr := hC.2.2.2.1
  unfold m_X6_restore m_X7_restore
  rw [hC.2.2.1]
  rcases hI with ⟨g0, g9, hK⟩ | ⟨g0, g9⟩
  · rw [g0, g9, if_neg n1_0, if_pos rfl]
    obtain ⟨n', kd', tg', c', am', kW, k1, k2, k3, k4, k5, k6, k7, k8, k9, k10, k11, k12, k13⟩ := hK
    have hn' := kW.1.1
    obtain ⟨S1, e1, x1, c1⟩ := r_copyTo_12_3 (SM := SM)
    rw [e1, bd_some]
    obtain ⟨S2, e2, x2, c2⟩ := r_copyTo_13_4 (SM := S1)
    rw [e2, bd_some]
    obtain ⟨S3, e3, x3, c3⟩ := r_copyTo_14_5 (SM := S2)
    rw [e3, bd_some]
    obtain ⟨S4, e4, x4, c4⟩ := r_copyTo_15_10 (SM := S3)
    rw [e4, bd_some]
    unfold m_X0_become_9
    simp only [nm, bd_some]
    have i4 : ∀ k, stI S4 k = stI SM k := fun k => by rw [x4.1, x3.1, x2.1, x1.1]
    have r4 : ∀ k, k ∉ [2, 3, 4, 9] → stR S4 k = stR SM k := fun k hk => by
      simp at hk
      rw [x4.2.2 k (by simp; omega), x3.2.2 k (by simp; omega), x2.2.2 k (by simp; omega), x1.2.2 k (by simp; omega)]
    have hy : stI SD 10 = stI S4 11 := by rw [i4]; exact k9
    refine ⟨stI SD 10, _, _, rfl, pairE hy.symm, ?_⟩
    refine ⟨pn, n', kd', tg', rm, lt, c', am', lr, su, mv, hP.fr rfl rfl ?_ ?_, ⟨kW, ⟨k1, hD.2.1, fun f hf => ?_, fun f hf => ?_, hD.2.2.2.2⟩, ⟨?_, ?_, fun f hf => ?_, fun f hf => ?_, fun l hl => ?_⟩, k7, ⟨fun f hf => ?_, fun f hf => ?_⟩⟩, ?_, ⟨k10, k11, ?_, fun i hi => ?_⟩, Or.inl ⟨g0, ?_, n', kd', tg', c', am', kW, k1, ?_, k3, k4, fun f hf => ?_, fun f hf => ?_, k7, ⟨fun f hf => ?_, fun f hf => ?_⟩, ?_, k10, k11, ?_, fun i hi => ?_⟩⟩
    · exact i4 0
    · exact r4 0 (by decide)
    · rw [stR_puI, stR_puI, stR_puL, stR_puI, cp_ne (by decide), cp_ne (by decide), cp_at (by omega)]; exact k3 f hf
    · rw [stR_puI, stR_puI, stR_puL, stR_puI, cp_ne (by decide), cp_at (by omega), cp_ne (by decide)]; exact k4 f hf
    · exact (i4 10).trans k2
    · exact (i4 1).trans hM.2.1
    · rw [stR_puI, stR_puI, stR_puI, x4.2.2 2 (by decide), x3.2.2 2 (by decide), x2.2.2 2 (by decide), c1 _ (by omega)]; exact k5 f hf
    · rw [stR_puI, stR_puI, stR_puI, x4.2.2 2 (by decide), x3.2.2 2 (by decide), x2.2.2 2 (by decide), c1 _ (by omega)]; exact k6 f hf
    · show stR S4 1 l = _; rw [r4 1 (by decide)]; exact hM.2.2.2.2 l hl
    · rw [stR_puI, stR_puI, stR_puI, x4.2.2 3 (by decide), x3.2.2 3 (by decide), c2 _ (by omega), x1.2.2 12 (by decide)]; exact k8.1 f hf
    · rw [stR_puI, stR_puI, stR_puI, x4.2.2 4 (by decide), c3 _ (by omega), x2.2.2 13 (by decide), x1.2.2 13 (by decide)]; exact k8.2 f hf
    · obtain ⟨q1, q2, q3, q4, q5, q6, q7, q8, q9, q10⟩ := hC
      exact ⟨hy, q2, (i4 3).trans q3, by omega, q5, (i4 5).trans q6, q7, q8, (i4 6).trans q9, q10⟩
    · exact (i4 12).trans k12
    · rw [stR_puI, stR_puI, stR_puL, stR_puI, cp_at (by omega), cp_ne (by decide), cp_ne (by decide), stR_puI, stR_puI, stR_puI, c4 _ (by omega), x3.2.2 14 (by decide), x2.2.2 14 (by decide), x1.2.2 14 (by decide)]; exact k13 i hi
    · exact (i4 9).trans g9
    · exact (i4 10).trans k2
    · show stR S4 11 (2 * f) = _; rw [r4 11 (by decide)]; exact k5 f hf
    · show stR S4 11 (2 * f + 1) = _; rw [r4 11 (by decide)]; exact k6 f hf
    · show stR S4 12 f = _; rw [r4 12 (by decide)]; exact k8.1 f hf
    · show stR S4 13 f = _; rw [r4 13 (by decide)]; exact k8.2 f hf
    · exact hy
    · exact (i4 12).trans k12
    · show stR SD 7 i = stR S4 14 i; rw [r4 14 (by decide)]; exact k13 i hi
  · rw [g0, if_pos n0_0, if_neg]
    · exact ⟨_, _, _, rfl, rfl, hup⟩
    · rcases g9 with g9 | ⟨k, hk, g9⟩
      · rw [g9]; exact m1_nI (by omega)
      · rw [g9]; exact nI_ne (by omega) (by omega) (by omega)
theorem liv_pop {c : Nat → Nat} {n : Nat} (hn : n ≤ 5) (hc : OKc n c) : pop (livM c 5) = sumN (fun f => if c f % 64 = 0 then 0 else 1) n := by
  have h5 : sumN (fun f => if c f % 64 = 0 then 0 else 1) n = (if c 0 % 64 = 0 then 0 else 1) + (if c 1 % 64 = 0 then 0 else 1) + (if c 2 % 64 = 0 then 0 else 1) + (if c 3 % 64 = 0 then 0 else 1) + (if c 4 % 64 = 0 then 0 else 1) := sumN_5 hn (fun f hf => by
    show (if c f % 64 = 0 then 0 else 1) = 0
    rw [hc.2 f hf]; rfl)
  rw [h5]
  simp only [livM]
  by_cases h0 : c 0 % 64 = 0 <;> by_cases h1 : c 1 % 64 = 0 <;> by_cases h2 : c 2 % 64 = 0 <;> by_cases h3 : c 3 % 64 = 0 <;> by_cases h4 : c 4 % 64 = 0 <;> simp only [h0, h1, h2, h3, h4, if_true, if_false] <;> rfl
theorem r_countOf {SM : ST} {n : Nat} {kd : Nat → Nat} {tg : Nat → Int32} {rm : Nat} {lt c : Nat → Nat} (hA : AM SM n kd tg rm lt) (hW : WF0 n kd tg rm lt) (hc : OKc n c) (hN : Nw SM 3 4 n c) (x1 : Int32) : m_X7_countOf FU x1 SM = (if x1 = (0 : Int32) then some (stI SM 1) else (if x1 = (1 : Int32) then some (stI SM 4) else (if x1 = (2 : Int32) then some (nI (pop (livM c 5))) else (if x1 = (3 : Int32) then some (nI (allL c)) else (if x1 = (4 : Int32) then some (stI SM 2) else (if x1 = (5 : Int32) then some (stI SM 7) else (if x1 = (6 : Int32) then some (stI SM 0) else (if x1 = (7 : Int32) then some (stI SM 3) else (if x1 = (8 : Int32) then some (stI SM 5) else (if x1 = (9 : Int32) then some (stI SM 6) else some (-102 : Int32))))))))))) := by
  have hn := hW.1
  rw [liv_pop hn hc, ← allN hn hc]
  unfold m_X7_countOf
  simp only [jn2]
  refine lq3_run (fun o => o = _) n (fun i x y z => x = nI (sumN (fun f => if c f % 64 = 0 then 0 else 1) i) ∧ y = nI (sumN (fun f => pop (c f % 64)) i) ∧ z = nI i) ?_ ?_ FU 0 _ _ _ (Nat.zero_le n) (by have := FU_v; omega) ⟨rfl, rfl, rfl⟩
  · rintro i x y z again hi ⟨rfl, rfl, rfl⟩
    right
    unfold m_X7_countOf_L7
    rw [hA.1, if_neg (nI_ge hi (by omega)), inB_nI (show i < 5 by omega) (by decide)]
    simp only [gd_true, jn1, nm]
    rw [rd_nI (show i < 2 ^ 31 by omega), hN.1 i hi, r_ones (by omega) FU_100, bd_some, bd_some]
    by_cases h0 : c i % 64 = 0
    · rw [if_pos (show nI (c i % 64) = (0 : Int32) by rw [h0]; rfl)]
      exact ⟨_, _, _, ⟨by rw [sumN, if_pos h0]; exact nI_add _ 0, nI_add _ _, nI_add i 1⟩, rfl⟩
    · rw [if_neg (show ¬ nI (c i % 64) = (0 : Int32) from nI_ne (b := 0) (by omega) (by decide) h0)]
      exact ⟨_, _, _, ⟨by rw [sumN, if_neg h0]; exact nI_add _ 1, nI_add _ _, nI_add i 1⟩, rfl⟩
  · rintro x y z again ⟨rfl, rfl, rfl⟩
    unfold m_X7_countOf_L7
    rw [hA.1, if_pos (nI_le (Nat.le_refl n) (by omega))]
theorem d_count {SD SM : ST} {t : Nat} (hR : Rel t SD SM) (x1 : Int32) : ∃ r, m_X6_count FU x1 SD = some r ∧ m_X7_countOf FU x1 SM = some r := by
  obtain ⟨pn, n, kd, tg, rm, lt, c, am, lr, su, mv, hP, ⟨hW, hD, hM, hL, hN⟩, hC, hS, hI⟩ := hR
  have hlv := livM_lt c 5
  rw [r_countOf hM hW.1 hW.2.1 hN]
  unfold m_X6_count
  rw [hL, d_living hW.2.1.lt FU_100, bd_some, bitCount32 FU _ (by omega), bd_some, s_allLeaves FU hW.2.1.lt, bd_some, hD.2.1, hM.2.1, hD.1, hM.1, hC.1, hS.2.1, hS.2.2.1, hP.2.1, hP.2.2.1, hC.2.1, hC.2.2.1, hC.2.2.2.2.1, hC.2.2.2.2.2.1, hC.2.2.2.2.2.2.2.1, hC.2.2.2.2.2.2.2.2.1]
  by_cases e0 : x1 = 0
  · simp only [if_pos e0]; exact ⟨_, rfl, rfl⟩
  by_cases e1 : x1 = 1
  · simp only [if_neg e0, if_pos e1]; exact ⟨_, rfl, rfl⟩
  by_cases e2 : x1 = 2
  · simp only [if_neg e0, if_neg e1, if_pos e2]; exact ⟨_, rfl, rfl⟩
  by_cases e3 : x1 = 3
  · simp only [if_neg e0, if_neg e1, if_neg e2, if_pos e3]; exact ⟨_, rfl, rfl⟩
  by_cases e4 : x1 = 4
  · simp only [if_neg e0, if_neg e1, if_neg e2, if_neg e3, if_pos e4]; exact ⟨_, rfl, rfl⟩
  by_cases e5 : x1 = 5
  · simp only [if_neg e0, if_neg e1, if_neg e2, if_neg e3, if_neg e4, if_pos e5]; exact ⟨_, rfl, rfl⟩
  by_cases e6 : x1 = 6
  · simp only [if_neg e0, if_neg e1, if_neg e2, if_neg e3, if_neg e4, if_neg e5, if_pos e6]; exact ⟨_, rfl, rfl⟩
  by_cases e7 : x1 = 7
  · simp only [if_neg e0, if_neg e1, if_neg e2, if_neg e3, if_neg e4, if_neg e5, if_neg e6, if_pos e7]; exact ⟨_, rfl, rfl⟩
  by_cases e8 : x1 = 8
  · simp only [if_neg e0, if_neg e1, if_neg e2, if_neg e3, if_neg e4, if_neg e5, if_neg e6, if_neg e7, if_pos e8]; exact ⟨_, rfl, rfl⟩
  by_cases e9 : x1 = 9
  · simp only [if_neg e0, if_neg e1, if_neg e2, if_neg e3, if_neg e4, if_neg e5, if_neg e6, if_neg e7, if_neg e8, if_pos e9]; exact ⟨_, rfl, rfl⟩
  simp only [if_neg e0, if_neg e1, if_neg e2, if_neg e3, if_neg e4, if_neg e5, if_neg e6, if_neg e7, if_neg e8, if_neg e9]; exact ⟨_, rfl, rfl⟩
theorem op_count {t : Nat} {SD SM : ST} (hR : Rel t SD SM) (x1 : Int32) : ∃ (r : Int32), m_X6_count FU x1 SD = some r ∧ m_X7_count FU x1 SM = some r ∧ Rel (t + 1) SD SM := by
  obtain ⟨r, h1, h2⟩ := d_count hR x1
  unfold m_X7_count
  rw [h2]
  exact ⟨r, h1, rfl, hR.up⟩
