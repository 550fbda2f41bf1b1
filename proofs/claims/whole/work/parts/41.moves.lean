/-! moving -/
section MOVES
variable {SD SM : ST} {n : Nat} {kd : Nat → Nat} {tg : Nat → Int32} {rm : Nat} {lt c : Nat → Nat}
theorem r_moved0 (hM : AM SM n kd tg rm lt) (hW : WF n kd tg rm lt c) (hN : Nw SM 3 4 n c) {many most : Nat} (hmany : many ≤ 3) (hmo : most ≤ 9) : ∃ S1, Ex [5, 6, 8] SM S1 ∧ Nw S1 5 6 n c ∧ stR S1 8 0 = nI 0 ∧ m_X7_isMovedBy FU (nI many) (nI most) SM = if abv most c ≤ many then lq2 (m_X7_isMovedBy_L24 FU (nI many) (nI most)) FU (nI 0) S1 else some (0, S1) := by
  have hn := hW.1.1
  obtain ⟨S1, e1, x1, a5, a6⟩ := r_asItIs (SM := SM) FU_100
  have x2 : Ex [8] S1 (wrA S1 8 (nI 0) (0 : Int32)) := wr_ex (i := 0) (by omega) (by decide)
  have hx : Ex [5, 6, 8] SM (wrA S1 8 (nI 0) (0 : Int32)) := (x1.mono (by decide)).tr (x2.mono (by decide))
  have hA := hM.ex hx (by decide) (by decide)
  have hN1 : Nw S1 5 6 n c := ⟨fun g hg => by rw [a5 g (by omega), hN.1 g hg], fun g hg => by rw [a6 g (by omega), hN.2 g hg]⟩
  have hNw : Nw (wrA S1 8 (nI 0) (0 : Int32)) 5 6 n c := hN1.ex x2 (by decide) (by decide)
  have habl := abv_le most c
  refine ⟨_, hx, hNw, ?_, ?_⟩
  · rw [(wr_at (show 0 < 2 ^ 31 by omega)).1 0, if_pos rfl]; rfl
  unfold m_X7_isMovedBy
  rw [e1, bd_some, show inB (0 : Int32) 4 = true from rfl, gd_true, nm_eqv, show (0 : Int32) = nI 0 from rfl]
  rw [show (0 : Int32) = nI 0 from rfl] at hA hNw
  rw [r_above hA hW.1 hW.2.1 hNw hmo, bd_some]
  by_cases hle : abv most c ≤ many
  · rw [if_pos (nI_le hle (by omega)), if_pos hle]
  · rw [if_neg (nI_ge (by omega) (by omega)), if_neg hle]
theorem DS.start {S1 : ST} {many : Nat} (hx : Ex [5, 6, 8] SM S1) (hN : Nw S1 5 6 n c) (h8 : stR S1 8 0 = nI 0) (hc : OKc n c) : DS SM n rm many 0 S1 (fun _ => c) (fun _ => 0) :=
  ⟨hx, hN, fun i hi => by rw [show i = 0 by omega]; exact ⟨h8, Nat.zero_le _⟩, fun i _ => hc, fun i hi => by omega, by omega⟩
theorem r_moved_no (hM : AM SM n kd tg rm lt) (hW : WF n kd tg rm lt c) (hN : Nw SM 3 4 n c) {many most : Nat} (hmany : many ≤ 3) (hmo : most ≤ 9) (hno : many < abv most c ∨ 6 * most < allL c) : ∃ S', m_X7_isMovedBy FU (nI many) (nI most) SM = some (0, S') ∧ Ex [5, 6, 8] SM S' := by
  have hn := hW.1.1
  obtain ⟨S1, hx, hNw, h8, e⟩ := r_moved0 hM hW hN hmany hmo
  rw [e]
  by_cases hle : abv most c ≤ many
  · rw [if_pos hle]
    have hbig : 6 * most < allL c := by
      rcases hno with h | h
      · omega
      · exact h
    refine r_walk hM hW.1 hmany hmo 0 (fun d C _ => ∀ i, i ≤ d → 6 * most < allL (C i)) ?_ ?_ ?_ ?_ FU 0 S1 (fun _ => c) (fun _ => 0) (DS.start hx hNw h8 hW.2.1) (fun _ _ => hbig) (by have := FU_v; have := mu_0 (n := n) hn hmany (fun _ => 0); omega)
    · intro d C nx h h0
      exact absurd h0 (abv_pos (h d (Nat.le_refl d)))
    · intro C nx _ _ _; rfl
    · intro d C nx h _ _ i hi
      exact h i (by omega)
    · intro d C nx m h _ hok _ _ _ g3 g4 _ i hi
      dsimp only
      by_cases e1 : i = d + 1
      · rw [if_pos e1, ren_all hok hn g3 g4]
        exact h d (Nat.le_refl d)
      · rw [if_neg e1]
        exact h i (by omega)
  · rw [if_neg hle]
    exact ⟨S1, rfl, hx⟩
theorem ren_full {m : Nat} (hn : n ≤ 5) (hc : OKc n c) (hm : m < 36 * n) (hg : leg rm c m) (hF : ∀ l, l < 6 → full c l ≤ rm) : ∀ l, l < 6 → full (ren c m) l ≤ rm := by
  intro l hl
  have h := (ren_ok hc hn hm hg).2.1 l hl
  have hf := hF l hl
  by_cases e : l = m % 6
  · have := hg.2.2.2
    rw [← e] at this
    rw [if_pos e] at h
    omega
  · rw [if_neg e] at h
    omega
def gdm (n rm most : Nat) (c : Nat → Nat) (q : Nat) : Prop := ∃ m, q ≤ m ∧ m < 36 * n ∧ leg rm c m ∧ abv most (ren c m) + 1 = abv most c
theorem r_moved_yes (hM : AM SM n kd tg rm lt) (hW : WF n kd tg rm lt c) (hN : Nw SM 3 4 n c) {many most : Nat} (hmany : many ≤ 3) (hmo : most ≤ 9) (he : abv most c = many) (hall : allL c ≤ 6 * most) : ∃ S', m_X7_isMovedBy FU (nI many) (nI most) SM = some (1, S') ∧ Ex [5, 6, 8] SM S' := by
  have hn := hW.1.1
  obtain ⟨S1, hx, hNw, h8, e⟩ := r_moved0 hM hW hN hmany hmo
  rw [e, if_pos (by omega)]
  have hfresh : ∀ c', OKc n c' → (∀ l, l < 6 → full c' l ≤ rm) → allL c' ≤ 6 * most → abv most c' = 0 ∨ gdm n rm most c' 0 := by
    intro c' h1 h2 h3
    by_cases h0 : abv most c' = 0
    · exact Or.inl h0
    · obtain ⟨m, m1, m2, m3⟩ := good_move hn h1 h2 h3 h0
      exact Or.inr ⟨m, by omega, m1, m2, m3⟩
  refine r_walk hM hW.1 hmany hmo 1 (fun d C nx => (∀ i, i ≤ d → OKc n (C i) ∧ (∀ l, l < 6 → full (C i) l ≤ rm) ∧ allL (C i) ≤ 6 * most) ∧ ((abv most (C d) ≤ many - d ∧ d ≤ many ∧ (abv most (C d) = 0 ∨ gdm n rm most (C d) (nx d))) ∨ (1 ≤ d ∧ many - d < abv most (C d) ∧ abv most (C (d - 1)) ≤ many - (d - 1) ∧ d - 1 ≤ many ∧ gdm n rm most (C (d - 1)) (nx (d - 1))))) ?_ ?_ ?_ ?_ FU 0 S1 (fun _ => c) (fun _ => 0) (DS.start hx hNw h8 hW.2.1) ⟨fun _ _ => ⟨hW.2.1, hW.2.2.1, hall⟩, Or.inl ⟨by omega, by omega, hfresh c hW.2.1 hW.2.2.1 hall⟩⟩ (by have := FU_v; have := mu_0 (n := n) hn hmany (fun _ => 0); omega)
  · intro d C nx _ _; rfl
  · intro C nx h h0 hst
    rcases h.2 with ⟨h1, h2, h3⟩ | ⟨h1, _⟩
    · exfalso
      rcases h3 with h3 | ⟨m, m0, m1, m2, m3⟩
      · exact h0 h3
      · rcases hst with q | q | q
        · omega
        · omega
        · exact q m m0 m1 m2
    · omega
  · intro d C nx h h0 hst
    refine ⟨fun i hi => h.1 i (by omega), ?_⟩
    rcases h.2 with ⟨h1, h2, h3⟩ | ⟨h1, h2, h3, h4, h5⟩
    · exfalso
      rcases h3 with h3 | ⟨m, m0, m1, m2, m3⟩
      · exact h0 h3
      · rcases hst with q | q | q
        · omega
        · omega
        · exact q m m0 m1 m2
    · rw [Nat.add_sub_cancel] at h3 h4 h5
      exact Or.inl ⟨h3, h4, Or.inr h5⟩
  · intro d C nx m h h0 hok hdm hav g2 g3 g4 g5
    have hC := h.1 d (Nat.le_refl d)
    have hnew : OKc n (ren (C d) m) ∧ (∀ l, l < 6 → full (ren (C d) m) l ≤ rm) ∧ allL (ren (C d) m) ≤ 6 * most := ⟨(ren_ok hok hn g3 g4).1, ren_full hn hok g3 g4 hC.2.1, by rw [ren_all hok hn g3 g4]; exact hC.2.2⟩
    refine ⟨fun i hi => ?_, ?_⟩
    · dsimp only
      by_cases e1 : i = d + 1
      · rw [if_pos e1]; exact hnew
      · rw [if_neg e1]; exact h.1 i (by omega)
    · dsimp only
      rw [if_pos rfl, if_neg (show ¬ d + 1 = d by omega), if_pos rfl, Nat.add_sub_cancel, if_neg (show ¬ d = d + 1 by omega), if_pos rfl]
      rcases Nat.lt_or_ge (many - (d + 1)) (abv most (ren (C d) m)) with q | q
      · right
        refine ⟨by omega, q, hav, by omega, ?_⟩
        rcases h.2 with ⟨h1, h2, h3⟩ | ⟨h1, h2, h3, h4, h5⟩
        · rcases h3 with h3 | ⟨m2, m0, m1, m3, m4⟩
          · exact absurd h3 h0
          · refine ⟨m2, ?_, m1, m3, m4⟩
            rcases Nat.lt_trichotomy m2 m with t | t | t
            · exact absurd m3 (g5 m2 m0 t)
            · rw [t] at m4; omega
            · omega
        · omega
      · left
        exact ⟨q, by omega, hfresh _ hnew.1 hnew.2.1 hnew.2.2⟩
theorem r_moving (hM : AM SM n kd tg rm lt) (hW : WF n kd tg rm lt c) (hN : Nw SM 3 4 n c) {most : Nat} (hmo : most ≤ 9) : ∃ S', lq2 (m_X7_moving_L46 FU (nI most)) FU (0 : Int32) SM = some (if allL c ≤ 6 * most ∧ abv most c ≤ 3 then nI (abv most c) else -1, S') ∧ Ex [5, 6, 8] SM S' := by
  refine lq2_run (fun o => ∃ S', o = some (if allL c ≤ 6 * most ∧ abv most c ≤ 3 then nI (abv most c) else -1, S') ∧ Ex [5, 6, 8] SM S') 4 (fun i a S => a = nI i ∧ Ex [5, 6, 8] SM S ∧ (allL c ≤ 6 * most → i ≤ abv most c)) ?_ ?_ FU 0 _ _ (by omega) (by have := FU_v; omega) ⟨rfl, Ex.rf, fun _ => by omega⟩
  · rintro i a S again hi ⟨rfl, hx, hle⟩
    have hMS := hM.ex hx (by decide) (by decide)
    have hNS : Nw S 3 4 n c := hN.ex hx (by decide) (by decide)
    unfold m_X7_moving_L46
    rw [if_neg (show ¬ (4 : Int32) ≤ nI i from nI_ge (b := 4) hi (by decide))]
    by_cases hy : allL c ≤ 6 * most ∧ abv most c = i
    · left
      obtain ⟨S1, e1, x1⟩ := r_moved_yes hMS hW hNS (many := i) (by omega) hmo hy.2 hy.1
      rw [e1, bd2_some, if_neg one0, if_pos ⟨hy.1, by omega⟩, hy.2]
      exact ⟨S1, rfl, hx.tr x1⟩
    · right
      have hno : i < abv most c ∨ 6 * most < allL c := by
        rcases Nat.lt_or_ge (6 * most) (allL c) with q | q
        · exact Or.inr q
        · have := hle q
          have : abv most c ≠ i := fun z => hy ⟨q, z⟩
          exact Or.inl (by omega)
      obtain ⟨S1, e1, x1⟩ := r_moved_no hMS hW hNS (many := i) (by omega) hmo hno
      rw [e1, bd2_some, if_pos rfl, nm_eqv]
      refine ⟨_, _, ⟨nI_add i 1, hx.tr x1, fun q => ?_⟩, rfl⟩
      rcases hno with z | z
      · omega
      · omega
  · rintro a S again ⟨rfl, hx, hle⟩
    unfold m_X7_moving_L46
    rw [if_pos (show (4 : Int32) ≤ nI 4 by decide), if_neg (fun q => by have := hle q.1; have := q.2; omega)]
    exact ⟨S, rfl, hx⟩
end MOVES
theorem op_moving {t : Nat} {SD SM : ST} (hR : Rel t SD SM) (x1 : Int32) : ∃ (r : Int32) (SD1 : ST) (SM1 : ST), m_X6_moving FU x1 SD = some (r, SD1) ∧ m_X7_moving FU x1 SM = some (r, SM1) ∧ Rel (t + 1) SD1 SM1 := by
  have hup := hR.up
  obtain ⟨pn, n, kd, tg, rm, lt, c, am, lr, su, mv, hP, hA, hC, hS, hI⟩ := hR
  unfold m_X6_moving m_X7_moving
  rcases in_1_9 FU x1 with ⟨h3, h4⟩ | ⟨most, hm1, hm9, rfl, h3, h4⟩
  · rw [h3, h4]; exact ⟨_, _, _, rfl, rfl, hup⟩
  rw [h3, h4, bd_some, bd_some, if_neg one0, if_neg one0]
  rcases sl_cases FU hA.1.1.2.1 hA.2.1.2.1 hA.2.2.1.2.1 with ⟨h0, h7, h8⟩ | ⟨h0, h7, h8⟩
  · rw [h7, h8]; exact ⟨_, _, _, rfl, rfl, hup⟩
  rw [h7, h8, bd_some, bd_some, if_neg one0, if_pos rfl, hC.2.2.2.2.2.2.2.1, hC.2.2.2.2.2.2.2.2.1]
  have hmv := hC.2.2.2.2.2.2.2.2.2
  by_cases h10 : mv = 10
  · rw [h10, if_neg (show ¬ nI 10 < (10 : Int32) by decide), if_pos (show nI 10 = (10 : Int32) from rfl)]
    exact ⟨_, _, _, rfl, rfl, hup⟩
  rw [if_pos (show nI mv < (10 : Int32) from nI_lt (b := 10) (by omega) (by decide)), if_neg (show ¬ nI mv = (10 : Int32) from nI_ne (b := 10) (by omega) (by decide) h10), show nI mv + (1 : Int32) = nI (mv + 1) from nI_add mv 1, nm_eqv, nm_eqv]
  have hD1 : AD (puI SD 3 (nI (mv + 1))) n kd tg rm lt := hA.2.1
  have hM1 : AM (puI SM 6 (nI (mv + 1))) n kd tg rm lt := hA.2.2.1
  have hN1 : Nw (puI SM 6 (nI (mv + 1))) 3 4 n c := hA.2.2.2.2
  have hL1 : stL (puI SD 3 (nI (mv + 1))) 0 = lN (enc c) := hA.2.2.2.1
  obtain ⟨S1, e1, x1⟩ := r_moving hM1 hA.1 hN1 hm9
  rw [d_few_ren hD1 hA.1.2.1 hL1 hm9, bd_some, e1]
  have hnew : Rel (t + 1) (puI SD 3 (nI (mv + 1))) (puI SM 6 (nI (mv + 1))) := by
    refine ⟨pn, n, kd, tg, rm, lt, c, am, lr, su, mv + 1, hP.fr rfl rfl rfl rfl, hA, ?_, hS.fr rfl rfl rfl rfl, hI.fr rfl rfl rfl rfl rfl rfl rfl rfl rfl rfl rfl rfl rfl rfl rfl rfl⟩
    exact ⟨hC.1, hC.2.1, hC.2.2.1, by have := hC.2.2.2.1; omega, hC.2.2.2.2.1, hC.2.2.2.2.2.1, hC.2.2.2.2.2.2.1, rfl, rfl, by omega⟩
  exact ⟨_, _, S1, rfl, rfl, hnew.sc (x1.sc (by decide))⟩
