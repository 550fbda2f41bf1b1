/-! the reference's search for renamings -/
section WALK
variable {SD SM : ST} {n : Nat} {kd : Nat → Nat} {tg : Nat → Int32} {rm : Nat} {lt : Nat → Nat}
theorem in_body {many most d av : Nat} (hW : WF0 n kd tg rm lt) {c : Nat → Nat} (hc : OKc n c) (hmany : many ≤ 3) (hd : d < many) (hav : av ≤ many - d) {q : Nat} {S : ST} (hq : q < 36 * n) (hA : AM S n kd tg rm lt) (hNw : Nw S 5 6 n c) (h8 : stR S 8 d = nI q) :
    (¬ leg rm c q ∧ ∀ (K ag : Int32 → ST → Option (Int32 × ST)), m_X7_isMovedBy_L45 FU (nI many) (nI most) (nI d) (nI av) K ag (0 : Int32) S = ag 0 (wrA S 8 (nI d) (nI (q + 1)))) ∨
    (leg rm c q ∧ ∃ S2, Ex [5] (wrA S 8 (nI d) (nI (q + 1))) S2 ∧ Nw S2 5 6 n (ren c q) ∧ ∀ (K ag : Int32 → ST → Option (Int32 × ST)), m_X7_isMovedBy_L45 FU (nI many) (nI most) (nI d) (nI av) K ag (0 : Int32) S = ag 1 S2) := by
  have hn := hW.1
  have h1 : ¬ nI many ≤ nI d := nI_ge hd (by omega)
  have h2 : ¬ nI many - nI d < nI av := by
    rw [pk_sub (by omega)]
    exact fun q => absurd (nI_le hav (by omega)) (Int32.not_le.mpr q)
  have h3 : inB (nI d) 4 = true := inB_nI (by omega) (by decide)
  have h36 : (36 : Int32) * nI n = nI (36 * n) := pk_mul 36 n
  have hd36 : nI q / (36 : Int32) = nI (q / 36) := pk_div (d := 36) (by omega) (by decide) (by decide)
  have x8 : Ex [8] S (wrA S 8 (nI d) (nI (q + 1))) := wr_ex (by omega) (by decide)
  have hN8 : Nw (wrA S 8 (nI d) (nI (q + 1))) 5 6 n c := hNw.ex x8 (by decide) (by decide)
  have hg36 : ¬ nI (36 * n) ≤ nI q := nI_ge hq (by omega)
  have hb : ∀ (K ag : Int32 → ST → Option (Int32 × ST)), m_X7_isMovedBy_L45 FU (nI many) (nI most) (nI d) (nI av) K ag (0 : Int32) S = if nI (q / 6 % 6) = nI (q % 6) then ag 0 (wrA S 8 (nI d) (nI (q + 1))) else bd (m_X7_mayRename_6 FU (nI (q / 36)) (nI (q / 6 % 6)) (nI (q % 6)) S) (fun v => if v = 0 then ag 0 (wrA S 8 (nI d) (nI (q + 1))) else bd (m_X7_renameNow FU (nI (q / 36)) (nI (q / 6 % 6)) (nI (q % 6)) (wrA S 8 (nI d) (nI (q + 1)))) (fun S2 => ag 1 S2)) := by
    intro K ag
    unfold m_X7_isMovedBy_L45
    rw [if_neg h1, if_neg h2, h3]
    simp only [gd_true, jn1, nm]
    rw [rd_nI (show d < 2 ^ 31 by omega), h8, hA.1, h36, if_neg hg36, mod6 (show q < 2 ^ 31 by omega), div6 (show q < 2 ^ 31 by omega), mod6 (show q / 6 < 2 ^ 31 by omega), hd36, show nI q + (1 : Int32) = nI (q + 1) from nI_add q 1]
    simp only [if_true, if_neg one0]
  by_cases hab : q / 6 % 6 = q % 6
  · refine Or.inl ⟨fun h => h.1 hab, fun K ag => ?_⟩
    rw [hb, if_pos (show nI (q / 6 % 6) = nI (q % 6) by rw [hab])]
  have hab2 := nI_ne (a := q / 6 % 6) (b := q % 6) (by omega) (by omega) hab
  rcases r_mayRen6 hA hW hc hNw hq hab with ⟨hl, e⟩ | ⟨hl, e⟩
  · obtain ⟨S2, e2, x2, n2⟩ := r_do (S := wrA S 8 (nI d) (nI (q + 1))) hc hn hN8 hq hl
    refine Or.inr ⟨hl, S2, x2, n2, fun K ag => ?_⟩
    rw [hb, if_neg hab2, e, bd_some, if_neg one0, e2, bd_some]
  · refine Or.inl ⟨hl, fun K ag => ?_⟩
    rw [hb, if_neg hab2, e, bd_some, if_pos rfl]
theorem r_inner {many most d av : Nat} (hW : WF0 n kd tg rm lt) {c : Nat → Nat} (hc : OKc n c) (hmany : many ≤ 3) (hd : d < many) (hav : av ≤ many - d) : ∀ (r N : Nat) (q : Nat) (S : ST), q + r = 36 * n → r + 1 < N → AM S n kd tg rm lt → Nw S 5 6 n c → stR S 8 d = nI q →
    (∃ S', (∀ K : Int32 → ST → Option (Int32 × ST), lq2 (m_X7_isMovedBy_L45 FU (nI many) (nI most) (nI d) (nI av) K) N (0 : Int32) S = K 0 S') ∧ Ex [8] S S' ∧ (∀ i, i ≠ d → stR S' 8 i = stR S 8 i) ∧ ∀ m, q ≤ m → m < 36 * n → ¬ leg rm c m) ∨
    (∃ S' m, (∀ K : Int32 → ST → Option (Int32 × ST), lq2 (m_X7_isMovedBy_L45 FU (nI many) (nI most) (nI d) (nI av) K) N (0 : Int32) S = K 1 S') ∧ Ex [5, 8] S S' ∧ (∀ i, i ≠ d → stR S' 8 i = stR S 8 i) ∧ stR S' 8 d = nI (m + 1) ∧ q ≤ m ∧ m < 36 * n ∧ leg rm c m ∧ (∀ m', q ≤ m' → m' < m → ¬ leg rm c m') ∧ Nw S' 5 6 n (ren c m)) := by
  have hn := hW.1
  have h1 : ¬ nI many ≤ nI d := nI_ge hd (by omega)
  have h2 : ¬ nI many - nI d < nI av := by
    rw [pk_sub (by omega)]
    exact fun q => absurd (nI_le hav (by omega)) (Int32.not_le.mpr q)
  have h3 : inB (nI d) 4 = true := inB_nI (by omega) (by decide)
  intro r
  induction r with
  | zero =>
    intro N q S hq hN hA hNw h8
    obtain ⟨N', rfl⟩ : ∃ N', N = N' + 1 := ⟨N - 1, by omega⟩
    refine Or.inl ⟨S, fun K => ?_, Ex.rf, fun _ _ => rfl, fun m hm hm2 => by omega⟩
    rw [lq2_s]
    unfold m_X7_isMovedBy_L45
    rw [if_neg h1, if_neg h2, h3, gd_true, rd_nI (by omega), h8, hA.1, show (36 : Int32) * nI n = nI (36 * n) from pk_mul 36 n, if_pos (nI_le (by omega) (by omega))]
  | succ r ih =>
    intro N q S hq hN hA hNw h8
    obtain ⟨N', rfl⟩ : ∃ N', N = N' + 1 := ⟨N - 1, by omega⟩
    have x8 : Ex [8] S (wrA S 8 (nI d) (nI (q + 1))) := wr_ex (by omega) (by decide)
    have hA8 := hA.ex x8 (by decide) (by decide)
    have hN8 : Nw (wrA S 8 (nI d) (nI (q + 1))) 5 6 n c := hNw.ex x8 (by decide) (by decide)
    have h8d : stR (wrA S 8 (nI d) (nI (q + 1))) 8 d = nI (q + 1) := by rw [(wr_at (show d < 2 ^ 31 by omega)).1 d, if_pos rfl]
    have h8i : ∀ i, i ≠ d → stR (wrA S 8 (nI d) (nI (q + 1))) 8 i = stR S 8 i := fun i hi => by rw [(wr_at (show d < 2 ^ 31 by omega)).1 i, if_neg hi]
    rcases in_body (most := most) hW hc hmany hd hav (show q < 36 * n by omega) hA hNw h8 with ⟨hnl, hb⟩ | ⟨hl, S2, x2, n2, hb⟩
    · rcases ih N' (q + 1) _ (by omega) (by omega) hA8 hN8 h8d with ⟨S', e, x, o8, no⟩ | ⟨S', m, e, x, o8, g1, g2, g3, g4, g5, g6⟩
      · refine Or.inl ⟨S', fun K => by rw [lq2_s, hb, e], x8.tr x, fun i hi => (o8 i hi).trans (h8i i hi), fun m hm hm2 => ?_⟩
        by_cases em : m = q
        · rw [em]; exact hnl
        · exact no m (by omega) hm2
      · refine Or.inr ⟨S', m, fun K => by rw [lq2_s, hb, e], (x8.mono (by decide)).tr x, fun i hi => (o8 i hi).trans (h8i i hi), g1, by omega, g3, g4, fun m' hm' hm2 => ?_, g6⟩
        by_cases em : m' = q
        · rw [em]; exact hnl
        · exact g5 m' (by omega) hm2
    · obtain ⟨N2, rfl⟩ : ∃ N2, N' = N2 + 1 := ⟨N' - 1, by omega⟩
      refine Or.inr ⟨S2, q, fun K => ?_, (x8.mono (by decide)).tr (x2.mono (by decide)), fun i hi => by rw [x2.2.2 8 (by decide)]; exact h8i i hi, by rw [x2.2.2 8 (by decide)]; exact h8d, Nat.le_refl q, by omega, hl, fun m' a b => by omega, n2⟩
      rw [lq2_s, hb, lq2_s]
      unfold m_X7_isMovedBy_L45
      rw [if_neg h1, if_neg h2, h3, gd_true]
      by_cases hz : (36 : Int32) * stI S2 4 ≤ rdA S2 8 (nI d)
      · rw [if_pos hz]
      · rw [if_neg hz, if_neg one0]
def kM : Nat → Nat
  | 0 => 0
  | j + 1 => 180 * kM j + 2
def mu (n many : Nat) (nx : Nat → Nat) (d : Nat) : Nat := sumN (fun i => (36 * n - nx i) * kM (many - i) + 1) (d + 1)
def DS (SM : ST) (n rm many d : Nat) (S : ST) (C : Nat → Nat → Nat) (nx : Nat → Nat) : Prop :=
  Ex [5, 6, 8] SM S ∧ Nw S 5 6 n (C d) ∧ (∀ i, i ≤ d → stR S 8 i = nI (nx i) ∧ nx i ≤ 36 * n) ∧ (∀ i, i ≤ d → OKc n (C i)) ∧ (∀ i, i < d → 1 ≤ nx i ∧ leg rm (C i) (nx i - 1) ∧ C (i + 1) = ren (C i) (nx i - 1)) ∧ d ≤ many
/-- why no move was found -/
def stuck (n rm many most d : Nat) (c : Nat → Nat) (q : Nat) : Prop := many ≤ d ∨ many - d < abv most c ∨ ∀ m, q ≤ m → m < 36 * n → ¬ leg rm c m
theorem mu_congr {many d : Nat} {nx nx' : Nat → Nat} (h : ∀ i, i ≤ d → nx' i = nx i) : mu n many nx' d = mu n many nx d := sumN_congr (d + 1) (fun i hi => by rw [h i (by omega)])
/-- a move is found at this node, or not -/
theorem r_node (hW : WF0 n kd tg rm lt) {many most d : Nat} (hmany : many ≤ 3) {c : Nat → Nat} (hc : OKc n c) {S : ST} (hA : AM S n kd tg rm lt) (hNw : Nw S 5 6 n c) {q : Nat} (h8 : stR S 8 d = nI q) (hq : q ≤ 36 * n) (hdm : d ≤ many) :
    (∃ S', (∀ K : Int32 → ST → Option (Int32 × ST), lq2 (m_X7_isMovedBy_L45 FU (nI many) (nI most) (nI d) (nI (abv most c)) K) FU (0 : Int32) S = K 0 S') ∧ Ex [8] S S' ∧ (∀ i, i ≠ d → stR S' 8 i = stR S 8 i) ∧ stuck n rm many most d c q) ∨
    (∃ S' m, (∀ K : Int32 → ST → Option (Int32 × ST), lq2 (m_X7_isMovedBy_L45 FU (nI many) (nI most) (nI d) (nI (abv most c)) K) FU (0 : Int32) S = K 1 S') ∧ Ex [5, 8] S S' ∧ (∀ i, i ≠ d → stR S' 8 i = stR S 8 i) ∧ stR S' 8 d = nI (m + 1) ∧ d < many ∧ abv most c ≤ many - d ∧ q ≤ m ∧ m < 36 * n ∧ leg rm c m ∧ (∀ m', q ≤ m' → m' < m → ¬ leg rm c m') ∧ Nw S' 5 6 n (ren c m)) := by
  have hn := hW.1
  have habl := abv_le most c
  obtain ⟨F1, hF1⟩ : ∃ F1, FU = F1 + 1 := ⟨FU - 1, by have := FU_v; omega⟩
  have hl : ∀ (K : Int32 → ST → Option (Int32 × ST)), lq2 (m_X7_isMovedBy_L45 FU (nI many) (nI most) (nI d) (nI (abv most c)) K) FU (0 : Int32) S = m_X7_isMovedBy_L45 FU (nI many) (nI most) (nI d) (nI (abv most c)) K (lq2 (m_X7_isMovedBy_L45 FU (nI many) (nI most) (nI d) (nI (abv most c)) K) F1) (0 : Int32) S := by
    intro K
    have h : ∀ M, M = F1 + 1 → lq2 (m_X7_isMovedBy_L45 FU (nI many) (nI most) (nI d) (nI (abv most c)) K) M (0 : Int32) S = m_X7_isMovedBy_L45 FU (nI many) (nI most) (nI d) (nI (abv most c)) K (lq2 (m_X7_isMovedBy_L45 FU (nI many) (nI most) (nI d) (nI (abv most c)) K) F1) (0 : Int32) S := by
      intro M hM
      rw [hM, lq2_s]
    exact h FU hF1
  rcases Nat.lt_or_ge d many with hdlt | hdge
  · rcases Nat.lt_or_ge (many - d) (abv most c) with hg | hg
    · refine Or.inl ⟨S, fun K => ?_, Ex.rf, fun _ _ => rfl, Or.inr (Or.inl hg)⟩
      rw [hl]
      unfold m_X7_isMovedBy_L45
      rw [if_neg (nI_ge hdlt (by omega)), pk_sub (show d ≤ many by omega), if_pos (nI_lt hg (by omega))]
    · rcases r_inner (most := most) hW hc hmany hdlt hg (36 * n - q) FU q S (by omega) (by have := FU_v; omega) hA hNw h8 with ⟨S', e, q1, q2, q3⟩ | ⟨S', m, e, q1, q2, q3, q4, q5, q6, q7, q8⟩
      · exact Or.inl ⟨S', e, q1, q2, Or.inr (Or.inr q3)⟩
      · exact Or.inr ⟨S', m, e, q1, q2, q3, hdlt, hg, q4, q5, q6, q7, q8⟩
  · refine Or.inl ⟨S, fun K => ?_, Ex.rf, fun _ _ => rfl, Or.inl hdge⟩
    rw [hl]
    unfold m_X7_isMovedBy_L45
    rw [if_pos (nI_le hdge (by omega))]
theorem w_zero {many most d : Nat} {S : ST} {a : Nat} (hd : d ≤ 4) (he : m_X7_above FU (nI most) S = some (nI a)) (h0 : a = 0) (ag : Int32 → ST → Option (Int32 × ST)) : m_X7_isMovedBy_L24 FU (nI many) (nI most) ag (nI d) S = some (1, S) := by
  unfold m_X7_isMovedBy_L24
  rw [if_neg (show ¬ nI d < (0 : Int32) from fun q => absurd (nI_le (a := 0) (b := d) (by omega) (by omega)) (Int32.not_le.mpr q)), he, bd_some, h0]
  rfl
theorem w_stuck0 {many most : Nat} {S S1 : ST} {a : Nat} (he : m_X7_above FU (nI most) S = some (nI a)) (h0 : a ≠ 0) (ha : a ≤ 30) (hK : ∀ K : Int32 → ST → Option (Int32 × ST), lq2 (m_X7_isMovedBy_L45 FU (nI many) (nI most) (nI 0) (nI a) K) FU (0 : Int32) S = K 0 S1) (ag : Int32 → ST → Option (Int32 × ST)) : m_X7_isMovedBy_L24 FU (nI many) (nI most) ag (nI 0) S = ag (-1) S1 := by
  unfold m_X7_isMovedBy_L24
  rw [if_neg (show ¬ nI 0 < (0 : Int32) by decide), he, bd_some, if_neg (show ¬ nI a = (0 : Int32) from nI_ne (b := 0) (by omega) (by decide) h0)]
  simp only [jn2]
  rw [hK, if_pos rfl]
  simp only [nm]
  rw [if_pos (show nI 0 + (-1 : Int32) < (0 : Int32) by decide)]
  rfl
theorem dec1 (d : Nat) : nI (d + 1) + (-1 : Int32) = nI d := by
  rw [← nI_pred d, Int32.sub_eq_add_neg]
theorem nn0 {d : Nat} (hd : d < 100) : ¬ nI d < (0 : Int32) := fun q => absurd (nI_le (a := 0) (b := d) (by omega) (by omega)) (Int32.not_le.mpr q)
theorem mod66 {q : Nat} (hq : q < 200) : nI q / (6 : Int32) - nI q / (6 : Int32) / (6 : Int32) * (6 : Int32) = nI (q / 6 % 6) := by
  rw [div6 (show q < 2 ^ 31 by omega), mod6 (show q / 6 < 2 ^ 31 by omega)]
theorem nm_eqv {α β : Type} (x : α) (f : α → Option β) : nm x f = f x := rfl
theorem w_tail {d : Nat} {S1 S2 : ST} {q : Nat} (hd : d < 4) (h8 : stR S1 8 d = nI (q + 1)) (hq : q < 200) (h2 : m_X7_renameNow FU (nI (q / 36)) (nI (q % 6)) (nI (q / 6 % 6)) S1 = some S2) (ag : Int32 → ST → Option (Int32 × ST)) : (if nI d < (0 : Int32) then ag (nI d) S1 else gd (inB (nI d) 4) (nm ((rdA S1 8 (nI d)) - (1 : Int32)) (fun x6_23 => bd (m_X7_renameNow FU ((x6_23 / (36 : Int32))) ((x6_23 - x6_23 / (6 : Int32) * (6 : Int32))) (((x6_23 / (6 : Int32)) - (x6_23 / (6 : Int32)) / (6 : Int32) * (6 : Int32))) S1) (fun S_25 => ag (nI d) S_25)))) = ag (nI d) S2 := by
  have hd36 : nI q / (36 : Int32) = nI (q / 36) := pk_div (d := 36) (by omega) (by decide) (by decide)
  have e2 := nn0 (d := d) (by omega)
  have e3 : inB (nI d) 4 = true := inB_nI (show d < 4 by omega) (by decide)
  have e4 : rdA S1 8 (nI d) - (1 : Int32) = nI q := by rw [rd_nI (show d < 2 ^ 31 by omega), h8]; exact nI_pred q
  have e7 := mod6 (x := q) (by omega)
  have e8 := mod66 hq
  rw [if_neg e2, e3, gd_true, e4, nm_eqv, hd36, e7, e8, h2, bd_some]
theorem w_stuck {many most d : Nat} {S S1 S2 : ST} {a q : Nat} (hd : d < 4) (he : m_X7_above FU (nI most) S = some (nI a)) (h0 : a ≠ 0) (ha : a ≤ 30) (hK : ∀ K : Int32 → ST → Option (Int32 × ST), lq2 (m_X7_isMovedBy_L45 FU (nI many) (nI most) (nI (d + 1)) (nI a) K) FU (0 : Int32) S = K 0 S1) (h8 : stR S1 8 d = nI (q + 1)) (hq : q < 200) (h2 : m_X7_renameNow FU (nI (q / 36)) (nI (q % 6)) (nI (q / 6 % 6)) S1 = some S2) (ag : Int32 → ST → Option (Int32 × ST)) : m_X7_isMovedBy_L24 FU (nI many) (nI most) ag (nI (d + 1)) S = ag (nI d) S2 := by
  have e0 : ¬ nI a = (0 : Int32) := nI_ne (b := 0) (by omega) (by decide) h0
  have e2' := nn0 (d := d + 1) (by omega)
  have e1 := dec1 d
  have hw := w_tail hd h8 hq h2 ag
  unfold m_X7_isMovedBy_L24
  rw [if_neg e2', he, bd_some, if_neg e0]
  simp only [jn2]
  rw [hK, if_pos rfl, e1, nm_eqv]
  exact hw
theorem w_push {many most d : Nat} {S S1 : ST} {a : Nat} (hd : d < 3) (he : m_X7_above FU (nI most) S = some (nI a)) (h0 : a ≠ 0) (ha : a ≤ 30) (hK : ∀ K : Int32 → ST → Option (Int32 × ST), lq2 (m_X7_isMovedBy_L45 FU (nI many) (nI most) (nI d) (nI a) K) FU (0 : Int32) S = K 1 S1) (ag : Int32 → ST → Option (Int32 × ST)) : m_X7_isMovedBy_L24 FU (nI many) (nI most) ag (nI d) S = ag (nI (d + 1)) (wrA S1 8 (nI (d + 1)) (0 : Int32)) := by
  unfold m_X7_isMovedBy_L24
  rw [if_neg (show ¬ nI d < (0 : Int32) from fun q => absurd (nI_le (a := 0) (b := d) (by omega) (by omega)) (Int32.not_le.mpr q)), he, bd_some, if_neg (show ¬ nI a = (0 : Int32) from nI_ne (b := 0) (by omega) (by decide) h0)]
  simp only [jn2]
  rw [hK, if_neg one0]
  simp only [nm]
  rw [show nI d + (1 : Int32) = nI (d + 1) from nI_add d 1, inB_nI (show d + 1 < 4 by omega) (by decide), gd_true]
theorem mu_push {many d m : Nat} {nx : Nat → Nat} (hn : n ≤ 5) (hdlt : d < many) (g2 : nx d ≤ m) (g3 : m < 36 * n) : mu n many (fun i => if i = d then m + 1 else if i = d + 1 then 0 else nx i) (d + 1) < mu n many nx d := by
  have e1 : mu n many (fun i => if i = d then m + 1 else if i = d + 1 then 0 else nx i) (d + 1) = sumN (fun i => (36 * n - nx i) * kM (many - i) + 1) d + ((36 * n - (m + 1)) * kM (many - d) + 1) + (36 * n * kM (many - (d + 1)) + 1) := by
    show sumN _ d + _ + _ = _
    congr 1
    · congr 1
      · exact sumN_congr d (fun i hi => by dsimp only; rw [if_neg (by omega), if_neg (by omega)])
      · dsimp only; rw [if_pos rfl]
    · dsimp only; rw [if_neg (by omega), if_pos rfl, Nat.sub_zero]
  have e2 : mu n many nx d = sumN (fun i => (36 * n - nx i) * kM (many - i) + 1) d + ((36 * n - nx d) * kM (many - d) + 1) := rfl
  have e3 : kM (many - d) = 180 * kM (many - (d + 1)) + 2 := by rw [show many - d = (many - (d + 1)) + 1 by omega]; rfl
  have e4 : (36 * n - (m + 1)) * kM (many - d) + kM (many - d) ≤ (36 * n - nx d) * kM (many - d) := by
    rw [← Nat.succ_mul]
    exact Nat.mul_le_mul_right _ (by omega)
  have e5 : 36 * n * kM (many - (d + 1)) ≤ 180 * kM (many - (d + 1)) := Nat.mul_le_mul_right _ (by omega)
  omega
theorem r_walk (hM : AM SM n kd tg rm lt) (hW : WF0 n kd tg rm lt) {many most : Nat} (hmany : many ≤ 3) (hmo : most ≤ 9) (v : Int32) (I : Nat → (Nat → Nat → Nat) → (Nat → Nat) → Prop)
    (H0 : ∀ d C nx, I d C nx → abv most (C d) = 0 → v = 1)
    (HR : ∀ C nx, I 0 C nx → abv most (C 0) ≠ 0 → stuck n rm many most 0 (C 0) (nx 0) → v = 0)
    (HP : ∀ d C nx, I (d + 1) C nx → abv most (C (d + 1)) ≠ 0 → stuck n rm many most (d + 1) (C (d + 1)) (nx (d + 1)) → I d C nx)
    (HQ : ∀ d C nx m, I d C nx → abv most (C d) ≠ 0 → OKc n (C d) → d < many → abv most (C d) ≤ many - d → nx d ≤ m → m < 36 * n → leg rm (C d) m → (∀ m', nx d ≤ m' → m' < m → ¬ leg rm (C d) m') → I (d + 1) (fun i => if i = d + 1 then ren (C d) m else C i) (fun i => if i = d then m + 1 else if i = d + 1 then 0 else nx i)) :
    ∀ (N d : Nat) (S : ST) (C : Nat → Nat → Nat) (nx : Nat → Nat), DS SM n rm many d S C nx → I d C nx → mu n many nx d < N → ∃ S', lq2 (m_X7_isMovedBy_L24 FU (nI many) (nI most)) N (nI d) S = some (v, S') ∧ Ex [5, 6, 8] SM S' := by
  have hn := hW.1
  intro N
  induction N with
  | zero => intro d S C nx hD hI h; omega
  | succ N ih =>
    intro d S C nx hD hI hmu
    obtain ⟨hx, hNw, h8, hok, hch, hdm⟩ := hD
    have hA := hM.ex hx (by decide) (by decide)
    have hcd := hok d (Nat.le_refl d)
    have habl := abv_le most (C d)
    have hab := r_above hA hW hcd hNw hmo
    rw [lq2_s]
    by_cases h0 : abv most (C d) = 0
    · rw [w_zero (by omega) hab h0, H0 d C nx hI h0]
      exact ⟨S, rfl, hx⟩
    rcases r_node (most := most) hW hmany hcd hA hNw (h8 d (Nat.le_refl d)).1 (h8 d (Nat.le_refl d)).2 hdm with ⟨S1, e, x1, o8, hst⟩ | ⟨S1, m, e, x1, o8, g1, hdlt, hg, g2, g3, g4, g5, g6⟩
    · cases d with
      | zero =>
        have hN2 : 1 ≤ N := by
          have : 1 ≤ mu n many nx 0 := by unfold mu; simp only [sumN]; omega
          omega
        obtain ⟨N', rfl⟩ : ∃ N', N = N' + 1 := ⟨N - 1, by omega⟩
        rw [w_stuck0 hab h0 habl e, lq2_s]
        unfold m_X7_isMovedBy_L24
        rw [if_pos (show (-1 : Int32) < (0 : Int32) by decide), HR C nx hI h0 hst]
        exact ⟨S1, rfl, hx.tr (x1.mono (by decide))⟩
      | succ d =>
        obtain ⟨c1, c2, c3⟩ := hch d (by omega)
        have hq36 := (h8 d (by omega)).2
        have hm36 : nx d - 1 < 36 * n := by omega
        have hNw1 : Nw S1 5 6 n (ren (C d) (nx d - 1)) := by
          rw [← c3]
          exact hNw.ex x1 (by decide) (by decide)
        obtain ⟨S2, e2, x2, n2⟩ := r_undo (hok d (by omega)) hn hm36 c2 hNw1
        have h8d : stR S1 8 d = nI (nx d - 1 + 1) := by rw [o8 d (by omega), (h8 d (by omega)).1, show nx d - 1 + 1 = nx d by omega]
        rw [w_stuck (by omega) hab h0 habl e h8d (by omega) e2]
        have hlt : mu n many nx d < N := by
          have : mu n many nx (d + 1) = mu n many nx d + ((36 * n - nx (d + 1)) * kM (many - (d + 1)) + 1) := rfl
          omega
        refine ih d S2 C nx ⟨hx.tr ((x1.mono (by decide)).tr (x2.mono (by decide))), n2, fun i hi => ?_, fun i hi => hok i (by omega), fun i hi => hch i (by omega), by omega⟩ (HP d C nx hI h0 hst) hlt
        rw [x2.2.2 8 (by decide), o8 i (by omega)]
        exact h8 i (by omega)
    · rw [w_push (by omega) hab h0 habl e]
      have hx2 : Ex [8] S1 (wrA S1 8 (nI (d + 1)) (0 : Int32)) := wr_ex (by omega) (by decide)
      have hwa := wr_at (S := S1) (j := 8) (i := d + 1) (v := (0 : Int32)) (by omega)
      have hro := ren_ok hcd hn g3 g4
      have hmp := mu_push (nx := nx) hn hdlt g2 g3
      refine ih (d + 1) _ (fun i => if i = d + 1 then ren (C d) m else C i) (fun i => if i = d then m + 1 else if i = d + 1 then 0 else nx i) ⟨hx.tr ((x1.mono (by decide)).tr (hx2.mono (by decide))), ?_, fun i hi => ?_, fun i hi => ?_, fun i hi => ?_, by omega⟩ (HQ d C nx m hI h0 hcd hdlt hg g2 g3 g4 g5) (by omega)
      · dsimp only
        rw [if_pos rfl]
        exact g6.ex hx2 (by decide) (by decide)
      · dsimp only
        rw [hwa.1 i]
        by_cases e1 : i = d + 1
        · rw [if_pos e1, if_neg (by omega), if_pos e1]
          exact ⟨rfl, by omega⟩
        · rw [if_neg e1, if_neg e1]
          by_cases e2 : i = d
          · rw [if_pos e2, e2]
            exact ⟨g1, by omega⟩
          · rw [if_neg e2, o8 i e2]
            exact h8 i (by omega)
      · dsimp only
        by_cases e1 : i = d + 1
        · rw [if_pos e1]; exact hro.1
        · rw [if_neg e1]; exact hok i (by omega)
      · dsimp only
        rw [if_neg (show ¬ i = d + 1 by omega), if_neg (show ¬ i = d + 1 by omega)]
        by_cases e2 : i = d
        · rw [if_pos e2, e2, if_pos rfl]
          exact ⟨by omega, g4, rfl⟩
        · rw [if_neg e2, if_neg (show ¬ i + 1 = d + 1 by omega)]
          exact hch i (by omega)
theorem mu_0 {many : Nat} (hn : n ≤ 5) (h : many ≤ 3) (nx : Nat → Nat) : mu n many nx 0 < 100000000 := by
  have h1 : kM (many - 0) ≤ 65162 := by
    have : many = 0 ∨ many = 1 ∨ many = 2 ∨ many = 3 := by omega
    rcases this with rfl | rfl | rfl | rfl <;> decide
  have h2 : (36 * n - nx 0) * kM (many - 0) ≤ 180 * 65162 := Nat.mul_le_mul (by omega) h1
  show 0 + ((36 * n - nx 0) * kM (many - 0) + 1) < _
  omega
end WALK
