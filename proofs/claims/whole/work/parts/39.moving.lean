/-! the fewest renamings -/
def ren (c : Nat → Nat) (m : Nat) : Nat → Nat := upc c (m / 36) (tog (tog (c (m / 36)) (m / 6 % 6)) (m % 6))
def leg (rm : Nat) (c : Nat → Nat) (m : Nat) : Prop := m / 6 % 6 ≠ m % 6 ∧ bitL (c (m / 36)) (m / 6 % 6) ≠ 0 ∧ bitL (c (m / 36)) (m % 6) = 0 ∧ full c (m % 6) < rm
def abv (most : Nat) (c : Nat → Nat) : Nat := sumN (fun l => full c l - most) 6
theorem pop_bits (x : Nat) : pop (x % 64) = bitL x 0 + bitL x 1 + bitL x 2 + bitL x 3 + bitL x 4 + bitL x 5 := by
  unfold pop bitL
  simp only [show (2 : Nat) ^ 0 = 1 from rfl, show (2 : Nat) ^ 1 = 2 from rfl, show (2 : Nat) ^ 2 = 4 from rfl, show (2 : Nat) ^ 3 = 8 from rfl, show (2 : Nat) ^ 4 = 16 from rfl, show (2 : Nat) ^ 5 = 32 from rfl]
  omega
theorem sum_full (c : Nat → Nat) : full c 0 + full c 1 + full c 2 + full c 3 + full c 4 + full c 5 = allL c := by
  unfold full allL
  rw [pop_bits, pop_bits, pop_bits, pop_bits, pop_bits]
  omega
theorem abv_6 (most : Nat) (c : Nat → Nat) : abv most c = (full c 0 - most) + (full c 1 - most) + (full c 2 - most) + (full c 3 - most) + (full c 4 - most) + (full c 5 - most) := by
  simp only [abv, sumN, Nat.zero_add]
theorem abv_le (most : Nat) (c : Nat → Nat) : abv most c ≤ 30 := by
  rw [abv_6]
  have := full_le c 0; have := full_le c 1; have := full_le c 2; have := full_le c 3; have := full_le c 4; have := full_le c 5
  omega
theorem ren_ok {n rm : Nat} {c : Nat → Nat} (hc : OKc n c) {m : Nat} (hn : n ≤ 5) (hm : m < 36 * n) (hg : leg rm c m) : OKc n (ren c m) ∧ (∀ k, k < 6 → full (ren c m) k + (if k = m / 6 % 6 then 1 else 0) = full c k + (if k = m % 6 then 1 else 0)) ∧ (∀ g, ren c m g / 64 = c g / 64) ∧ tog (tog (c (m / 36)) (m / 6 % 6)) (m % 6) < 192 := by
  have hf : m / 36 < n := by omega
  have ht := ren_fact _ (hc.1 (m / 36)) (m / 6 % 6) (by omega) (m % 6) (by omega) hg.1 hg.2.1 hg.2.2.1
  refine ⟨⟨fun g => ?_, fun g hge => ?_⟩, fun k hk => ?_, fun g => ?_, ht.2.1⟩
  · unfold ren
    by_cases e : g = m / 36
    · rw [e, upc_s]; exact ht.2.1
    · rw [upc_n e]; exact hc.1 g
  · unfold ren
    rw [upc_n (by omega)]; exact hc.2 g hge
  · have e1 := full_up (c := c) (f := m / 36) (v := tog (tog (c (m / 36)) (m / 6 % 6)) (m % 6)) (l := k) (by omega)
    have e2 := ht.2.2.2.2 k hk
    unfold ren
    omega
  · unfold ren
    by_cases e : g = m / 36
    · rw [e, upc_s]; exact ht.2.2.1
    · rw [upc_n e]
theorem ren_all {n rm : Nat} {c : Nat → Nat} (hc : OKc n c) {m : Nat} (hn : n ≤ 5) (hm : m < 36 * n) (hg : leg rm c m) : allL (ren c m) = allL c := by
  have h := (ren_ok hc hn hm hg).2.1
  have h0 := h 0 (by decide); have h1 := h 1 (by decide); have h2 := h 2 (by decide); have h3 := h 3 (by decide); have h4 := h 4 (by decide); have h5 := h 5 (by decide)
  rw [← sum_full, ← sum_full]
  have ha : m / 6 % 6 < 6 := by omega
  have hb : m % 6 < 6 := by omega
  generalize m / 6 % 6 = a at *
  generalize m % 6 = b at *
  have ea : ((((((if 0 = a then 1 else 0) + if 1 = a then 1 else 0) + if 2 = a then 1 else 0) + if 3 = a then 1 else 0) + if 4 = a then 1 else 0) + if 5 = a then 1 else 0) = 1 := by
    match a, ha with
    | 0, _ => rfl
    | 1, _ => rfl
    | 2, _ => rfl
    | 3, _ => rfl
    | 4, _ => rfl
    | 5, _ => rfl
  have eb : ((((((if 0 = b then 1 else 0) + if 1 = b then 1 else 0) + if 2 = b then 1 else 0) + if 3 = b then 1 else 0) + if 4 = b then 1 else 0) + if 5 = b then 1 else 0) = 1 := by
    match b, hb with
    | 0, _ => rfl
    | 1, _ => rfl
    | 2, _ => rfl
    | 3, _ => rfl
    | 4, _ => rfl
    | 5, _ => rfl
  omega
theorem sum_one {g h : Nat → Nat} {a b : Nat} (hab : a ≠ b) (ha : h a + 1 = g a) (hb : h b = g b) (hr : ∀ k, k ≠ a → k ≠ b → h k = g k) : ∀ N, sumN h N + (if a < N then 1 else 0) = sumN g N
  | 0 => rfl
  | N + 1 => by
    have ih := sum_one hab ha hb hr N
    have : h N + (if N = a then 1 else 0) = g N := by
      by_cases e : N = a
      · rw [if_pos e, e]; exact ha
      · rw [if_neg e]
        by_cases e2 : N = b
        · rw [e2]; exact hb
        · exact hr N e e2
    simp only [sumN]
    by_cases e : N = a
    · rw [if_pos (by omega)]
      rw [if_neg (by omega)] at ih
      rw [if_pos e] at this
      omega
    · rw [if_neg e] at this
      by_cases e3 : a < N
      · rw [if_pos (by omega)]
        rw [if_pos e3] at ih
        omega
      · rw [if_neg (by omega)]
        rw [if_neg e3] at ih
        omega
theorem fewer {c : Nat → Nat} {a b : Nat} (h : full c b < full c a) : ∃ f, f < 5 ∧ bitL (c f) a ≠ 0 ∧ bitL (c f) b = 0 := by
  unfold full at h
  have q := fun f => bitL_01 (c f) a
  have w := fun f => bitL_01 (c f) b
  apply Classical.byContradiction
  intro hno
  have key : ∀ f, f < 5 → bitL (c f) a ≤ bitL (c f) b := fun f hf => by
    rcases q f with e | e
    · omega
    · rcases w f with e2 | e2
      · exact absurd ⟨f, hf, by omega, e2⟩ hno
      · omega
  have k0 := key 0 (by decide); have k1 := key 1 (by decide); have k2 := key 2 (by decide); have k3 := key 3 (by decide); have k4 := key 4 (by decide)
  omega
theorem good_move {n rm most : Nat} {c : Nat → Nat} (hn : n ≤ 5) (hc : OKc n c) (hF : ∀ l, l < 6 → full c l ≤ rm) (hall : allL c ≤ 6 * most) (hab : abv most c ≠ 0) : ∃ m, m < 36 * n ∧ leg rm c m ∧ abv most (ren c m) + 1 = abv most c := by
  obtain ⟨a, ha, ha2⟩ : ∃ a, a < 6 ∧ most < full c a := by
    apply Classical.byContradiction
    intro hno
    have key : ∀ l, l < 6 → full c l ≤ most := fun l hl => by
      rcases Nat.lt_or_ge most (full c l) with q | q
      · exact absurd ⟨l, hl, q⟩ hno
      · exact q
    have k0 := key 0 (by decide); have k1 := key 1 (by decide); have k2 := key 2 (by decide); have k3 := key 3 (by decide); have k4 := key 4 (by decide); have k5 := key 5 (by decide)
    rw [abv_6] at hab
    omega
  obtain ⟨b, hb, hb2⟩ : ∃ b, b < 6 ∧ full c b < most := by
    apply Classical.byContradiction
    intro hno
    have key : ∀ l, l < 6 → most ≤ full c l := fun l hl => by
      rcases Nat.lt_or_ge (full c l) most with q | q
      · exact absurd ⟨l, hl, q⟩ hno
      · exact q
    have k0 := key 0 (by decide); have k1 := key 1 (by decide); have k2 := key 2 (by decide); have k3 := key 3 (by decide); have k4 := key 4 (by decide); have k5 := key 5 (by decide)
    have hs := sum_full c
    match a, ha with
    | 0, _ => omega
    | 1, _ => omega
    | 2, _ => omega
    | 3, _ => omega
    | 4, _ => omega
    | 5, _ => omega
  obtain ⟨f, hf5, hfa, hfb⟩ := fewer (c := c) (a := a) (b := b) (by omega)
  have hf : f < n := by
    rcases Nat.lt_or_ge f n with q | q
    · exact q
    · rw [hc.2 f q] at hfa
      exact absurd (by unfold bitL; simp) hfa
  have e1 : (36 * f + 6 * a + b) / 36 = f := by omega
  have e2 : (36 * f + 6 * a + b) / 6 % 6 = a := by omega
  have e3 : (36 * f + 6 * a + b) % 6 = b := by omega
  have hr := hF a ha
  have hlg : leg rm c (36 * f + 6 * a + b) := by
    unfold leg
    rw [e1, e2, e3]
    exact ⟨fun q => by subst q; omega, hfa, hfb, by omega⟩
  have hm : 36 * f + 6 * a + b < 36 * n := by omega
  refine ⟨36 * f + 6 * a + b, hm, hlg, ?_⟩
  have ho := (ren_ok hc hn hm hlg).2.1
  rw [e2, e3] at ho
  have hab2 : a ≠ b := fun q => by subst q; omega
  have hoa := ho a ha
  have hob := ho b hb
  rw [if_pos rfl, if_neg hab2] at hoa
  rw [if_neg (fun q => hab2 q.symm), if_pos rfl] at hob
  have hsum : ∀ N, N ≤ 6 → sumN (fun l => full (ren c (36 * f + 6 * a + b)) l - most) N + (if a < N then 1 else 0) = sumN (fun l => full c l - most) N := by
    intro N
    induction N with
    | zero => intro _; rfl
    | succ N ih =>
      intro hN
      have ihN := ih (by omega)
      have hst : (full (ren c (36 * f + 6 * a + b)) N - most) + (if N = a then 1 else 0) = full c N - most := by
        have hoN := ho N (by omega)
        by_cases ea : N = a
        · rw [if_pos ea, ea]; omega
        · rw [if_neg ea]
          by_cases eb : N = b
          · rw [eb]; omega
          · rw [if_neg ea, if_neg eb] at hoN; omega
      simp only [sumN]
      by_cases e : N = a
      · rw [if_pos (by omega)]
        rw [if_neg (by omega)] at ihN
        rw [if_pos e] at hst
        omega
      · rw [if_neg e] at hst
        by_cases e3 : a < N
        · rw [if_pos (by omega)]
          rw [if_pos e3] at ihN
          omega
        · rw [if_neg (by omega)]
          rw [if_neg e3] at ihN
          omega
  have := hsum 6 (Nat.le_refl 6)
  rw [if_pos ha] at this
  exact this
theorem abv_pos {most : Nat} {c : Nat → Nat} (h : 6 * most < allL c) : abv most c ≠ 0 := by
  have := sum_full c
  rw [abv_6]
  omega
section MOV
variable {SD SM S : ST} {n : Nat} {kd : Nat → Nat} {tg : Nat → Int32} {rm : Nat} {lt c : Nat → Nat}
theorem r_above (hA : AM S n kd tg rm lt) (hW : WF0 n kd tg rm lt) (hc : OKc n c) (hN : Nw S 5 6 n c) {most : Nat} (hmo : most ≤ 9) : m_X7_above FU (nI most) S = some (nI (abv most c)) := by
  unfold m_X7_above
  refine lq2_run (fun o => o = some (nI (abv most c))) 6 (fun i a b => a = nI (sumN (fun l => full c l - most) i) ∧ b = nI i) ?_ ?_ FU 0 _ _ (by omega) (by have := FU_v; omega) ⟨rfl, rfl⟩
  · rintro i a b again hi ⟨rfl, rfl⟩
    right
    have hfl := full_le c i
    unfold m_X7_above_L4
    rw [if_neg (show ¬ (6 : Int32) ≤ nI i from nI_ge (b := 6) hi (by decide)), r_fullness_6 hA hW hc hN hi FU_100, bd_some]
    simp only [jn1, nm]
    by_cases h : full c i ≤ most
    · rw [if_pos (nI_le h (by omega))]
      exact ⟨_, _, ⟨by rw [sumN, show full c i - most = 0 by omega]; exact nI_add _ 0, nI_add i 1⟩, rfl⟩
    · rw [if_neg (nI_ge (by omega) (by omega)), pk_sub (by omega), nI_add]
      exact ⟨_, _, ⟨rfl, nI_add i 1⟩, rfl⟩
  · rintro a b again ⟨rfl, rfl⟩
    unfold m_X7_above_L4
    rw [if_pos (show (6 : Int32) ≤ nI 6 by decide)]
    rfl
theorem d_few_ren (hA : AD SD n kd tg rm lt) (hc : OKc n c) (hL : stL SD 0 = lN (enc c)) {most : Nat} (hmo : most ≤ 9) : m_X1_fewestRenamings FU (nI most) SD = some (if allL c ≤ 6 * most ∧ abv most c ≤ 3 then nI (abv most c) else -1) := by
  unfold m_X1_fewestRenamings
  simp only [jn1]
  refine lq2_run (fun o => o = some (if allL c ≤ 6 * most ∧ abv most c ≤ 3 then nI (abv most c) else -1)) 6 (fun i a b => a = nI (sumN (fun l => full c l - most) i) ∧ b = nI i) ?_ ?_ FU 0 _ _ (by omega) (by have := FU_v; omega) ⟨rfl, rfl⟩
  · rintro i a b again hi ⟨rfl, rfl⟩
    right
    have hfl := full_le c i
    unfold m_X1_fewestRenamings_L4
    rw [if_neg (show ¬ (6 : Int32) ≤ nI i from nI_ge (b := 6) hi (by decide)), hL, s_fullness FU hc.lt hi, bd_some]
    simp only [nm]
    by_cases h : full c i ≤ most
    · have hneg : ¬ (0 : Int32) < nI (full c i) - nI most := by
        rw [Int32.lt_iff_toInt_lt, pk_sub_toInt (by omega) (by omega)]
        have : (0 : Int32).toInt = 0 := by decide
        omega
      rw [if_neg hneg]
      exact ⟨_, _, ⟨by rw [sumN, show full c i - most = 0 by omega]; exact nI_add _ 0, nI_add i 1⟩, rfl⟩
    · rw [pk_sub (by omega), if_pos (show (0 : Int32) < nI (full c i - most) from nI_lt (a := 0) (by omega) (by omega)), nI_add]
      exact ⟨_, _, ⟨rfl, nI_add i 1⟩, rfl⟩
  · rintro a b again ⟨rfl, rfl⟩
    unfold m_X1_fewestRenamings_L4
    have hab := abv_le most c
    have hal : allL c ≤ 30 := by
      unfold allL
      have := pop_le (c 0 % 64); have := pop_le (c 1 % 64); have := pop_le (c 2 % 64); have := pop_le (c 3 % 64); have := pop_le (c 4 % 64)
      omega
    rw [if_pos (show (6 : Int32) ≤ nI 6 by decide), show sumN (fun l => full c l - most) 6 = abv most c from rfl]
    dsimp only
    rw [hL, s_allLeaves FU hc.lt, bd_some, show (6 : Int32) * nI most = nI (6 * most) from pk_mul 6 most]
    by_cases h : allL c ≤ 6 * most
    · rw [if_neg (show ¬ nI (6 * most) < nI (allL c) from fun q => absurd (nI_le h (by omega)) (Int32.not_le.mpr q)), if_neg one0]
      by_cases h3 : abv most c ≤ 3
      · rw [if_neg (show ¬ (3 : Int32) < nI (abv most c) from fun q => absurd (nI_le (b := 3) h3 (by decide)) (Int32.not_le.mpr q)), if_pos ⟨h, h3⟩]
      · rw [if_pos (show (3 : Int32) < nI (abv most c) from nI_lt (a := 3) (by omega) (by omega)), if_neg (fun q => h3 q.2)]
    · rw [if_pos (nI_lt (by omega) (by omega)), if_pos trivial, if_neg (fun q => h q.1)]
theorem r_mayRen6 (hA : AM S n kd tg rm lt) (hW : WF0 n kd tg rm lt) (hc : OKc n c) (hN : Nw S 5 6 n c) {m : Nat} (hm : m < 36 * n) (hne : m / 6 % 6 ≠ m % 6) : (leg rm c m ∧ m_X7_mayRename_6 FU (nI (m / 36)) (nI (m / 6 % 6)) (nI (m % 6)) S = some 1) ∨ (¬ leg rm c m ∧ m_X7_mayRename_6 FU (nI (m / 36)) (nI (m / 6 % 6)) (nI (m % 6)) S = some 0) := by
  have hn := hW.1
  have hr9 := hW.2.1
  have hf : m / 36 < n := by omega
  have ha : m / 6 % 6 < 6 := by omega
  have hb : m % 6 < 6 := by omega
  unfold leg
  generalize m / 36 = f at *
  generalize m / 6 % 6 = a at *
  generalize m % 6 = b at *
  have hsa : (nI (c f % 64) >>> (nI a &&& (31 : Int32))) &&& (1 : Int32) = nI (bitL (c f) a) := shr1 (hc.1 f) ha
  have hsb : (nI (c f % 64) >>> (nI b &&& (31 : Int32))) &&& (1 : Int32) = nI (bitL (c f) b) := shr1 (hc.1 f) hb
  have hfl := full_le c b
  unfold m_X7_mayRename_6
  rw [inB_nI (show f < 5 by omega) (by decide)]
  simp only [gd_true]
  rw [rd_nI (show f < 2 ^ 31 by omega), hN.1 f hf, hsa, hsb, r_fullness_6 hA hW hc hN hb FU_100, bd_some, hA.2.1]
  by_cases q1 : bitL (c f) a = 0
  · rw [if_neg (show ¬ nI (bitL (c f) a) = (1 : Int32) by rw [q1]; decide)]
    exact Or.inr ⟨fun q => q.2.1 q1, rfl⟩
  have q1' : bitL (c f) a = 1 := by have := bitL_01 (c f) a; omega
  rw [if_pos (show nI (bitL (c f) a) = (1 : Int32) by rw [q1']; rfl)]
  by_cases q2 : bitL (c f) b = 0
  · rw [if_pos (show nI (bitL (c f) b) = (0 : Int32) by rw [q2]; rfl)]
    by_cases q3 : full c b < rm
    · rw [if_neg (nI_ge q3 (by omega))]
      exact Or.inl ⟨⟨hne, q1, q2, q3⟩, rfl⟩
    · rw [if_pos (nI_le (by omega) (by omega))]
      exact Or.inr ⟨fun q => q3 q.2.2.2, rfl⟩
  · rw [if_neg (show ¬ nI (bitL (c f) b) = (0 : Int32) from nI_ne (b := 0) (by have := bitL_01 (c f) b; omega) (by decide) q2)]
    exact Or.inr ⟨fun q => q2 q.2.2.1, rfl⟩
theorem r_renNow {f a b : Nat} (hf : f < 5) (ha : a < 6) (hb : b < 6) : m_X7_renameNow FU (nI f) (nI a) (nI b) S = some (wrA S 5 (nI f) ((stR S 5 f &&& (nI (2 ^ a) ^^^ -1)) ||| nI (2 ^ b))) := by
  have hona : (1 : Int32) <<< (nI a &&& (31 : Int32)) = nI (2 ^ a) := (nextb a ha).2.1
  have honb : (1 : Int32) <<< (nI b &&& (31 : Int32)) = nI (2 ^ b) := (nextb b hb).2.1
  unfold m_X7_renameNow
  rw [inB_nI hf (by decide)]
  simp only [gd_true, nm]
  rw [rd_nI (show f < 2 ^ 31 by omega), hona, honb]
theorem r_do (hc : OKc n c) (hn : n ≤ 5) (hN : Nw S 5 6 n c) {m : Nat} (hm : m < 36 * n) (hg : leg rm c m) : ∃ S', m_X7_renameNow FU (nI (m / 36)) (nI (m / 6 % 6)) (nI (m % 6)) S = some S' ∧ Ex [5] S S' ∧ Nw S' 5 6 n (ren c m) := by
  have hf : m / 36 < n := by omega
  have ht := ren_fact _ (hc.1 (m / 36)) (m / 6 % 6) (by omega) (m % 6) (by omega) hg.1 hg.2.1 hg.2.2.1
  have ho := ren_ok hc hn hm hg
  refine ⟨_, r_renNow (by omega) (by omega) (by omega), wr_ex (by omega) (by decide), fun g hgn => ?_, fun g hgn => ?_⟩
  · rw [(wr_at (by omega)).1 g]
    by_cases e : g = m / 36
    · rw [if_pos e, hN.1 _ hf, ht.2.2.2.1, e, ren, upc_s]
    · rw [if_neg e, hN.1 g hgn, ren, upc_n e]
  · rw [(wr_at (by omega)).2.1 6 (by decide), hN.2 g hgn, ho.2.2.1]
def unf (x a b : Nat) : Bool := rf0 x a b || decide ((nI (tog (tog x a) b % 64) &&& (nI (2 ^ b) ^^^ -1)) ||| nI (2 ^ a) = nI (x % 64))
theorem unf_all : (List.range 192).all (fun x => (List.range 6).all (fun a => (List.range 6).all (fun b => unf x a b))) = true := by decide +kernel
theorem r_undo (hc : OKc n c) (hn : n ≤ 5) {m : Nat} (hm : m < 36 * n) (hg : leg rm c m) (hN : Nw S 5 6 n (ren c m)) : ∃ S', m_X7_renameNow FU (nI (m / 36)) (nI (m % 6)) (nI (m / 6 % 6)) S = some S' ∧ Ex [5] S S' ∧ Nw S' 5 6 n c := by
  have hf : m / 36 < n := by omega
  have ho := ren_ok hc hn hm hg
  have hu := allR (allR (allR unf_all (hc.1 (m / 36))) (show m / 6 % 6 < 6 by omega)) (show m % 6 < 6 by omega)
  have hu2 : (nI (tog (tog (c (m / 36)) (m / 6 % 6)) (m % 6) % 64) &&& (nI (2 ^ (m % 6)) ^^^ -1)) ||| nI (2 ^ (m / 6 % 6)) = nI (c (m / 36) % 64) := by
    have h1 : rf0 (c (m / 36)) (m / 6 % 6) (m % 6) = false := by
      unfold rf0
      rw [decide_eq_false hg.1, decide_eq_false hg.2.1, decide_eq_true hg.2.2.1]; rfl
    unfold unf at hu
    rw [h1, Bool.false_or] at hu
    exact of_decide_eq_true hu
  refine ⟨_, r_renNow (by omega) (by omega) (by omega), wr_ex (by omega) (by decide), fun g hgn => ?_, fun g hgn => ?_⟩
  · rw [(wr_at (by omega)).1 g]
    by_cases e : g = m / 36
    · rw [if_pos e, hN.1 _ hf, ren, upc_s, hu2, e]
    · rw [if_neg e, hN.1 g hgn, ren, upc_n e]
  · rw [(wr_at (by omega)).2.1 6 (by decide), hN.2 g hgn, ho.2.2.1]
end MOV
